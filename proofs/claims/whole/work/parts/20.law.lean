/-! THE CLAIM OUT OF ONE WALK OF THE LAW'S BODY. Your part is whole_start (and what it stands on); all else here is the same for every law, but numbers. -/
def R_law : String := "HeapVersionsLaw"
def lw_P (b : Addr) (xs : List Int32) (args : Array Value) (s : State) : Prop := args = #[.ref b] ∧ s.IntsAt b xs ∧ xs.length ≤ 3072 ∧ (Jvm.Cond.and given_1 narrow_1).before args s = true
def lw_Q (_ : Array Value) (s : State) (o : Outcome) (t : State) : Prop := o = .returned (some (.int 1)) ∧ Framed s o t [] 600000 7302250
def lw_Z (below : List Frame) (a : Array Value) (s : State) : State → Prop := fun t => ∃ o, t.status = .running ∧ Ended t below o ∧ lw_Q a s o t
/-- the law's own end, with 1 on the stack, nothing written that was there before, its room as the claim has it -/
theorem lw_ret {p : Program} {l : Launch} {e : Env} {s : State} {m : MethodId} {below : List Frame} {meth : Method} {c : Code} {b : Nat} (hx : p.tables.exec = Jvm.exec) (hb : c.code = code) (hr : meth.sig.returnType = ret) (hlocks : meth.locks = false) {pc : Nat} {H : Heap} {ls : Array Slot} (hdg : decode code pc = .ok (.ireturn, 1)) : W p l e room_1 s m #[Value.ref b] below meth c H [] 600000 7302250 (lw_Z below #[Value.ref b] s) (F0 m pc ls [.int 1]) := by
  intro T hT X
  obtain ⟨fs, hret, hrun, hended, hW, hframe⟩ := X.leave (v := some (.int 1)) (hlocks := hlocks) (fun h => by rw [hr] at h; cases h)
  have hmeth' : T.vm.method? m = some meth := X.method'
  refine ⟨T.setFrames fs, ?_, .returned (some (.int 1)), hrun, hended, rfl, ⟨_, rfl⟩, hW, hframe⟩
  jvm_step X.here [X.here.top, hx, hb, hdg, hmeth', hr, ret, narrow_b1]
  (try refine ⟨rfl, ?_⟩); (try refine ⟨rfl, ?_⟩)
  first | (intro acts; rw [hret _ acts rfl rfl rfl]) | rw [hret _ _ rfl rfl rfl]
  exact Steps.refl _
/-- what holds at the law's entry: the machine, the code, the tables' words (any of lw_tbl by 'hts w (by decide +kernel)'), the script of L ints xs at the cell b, what the Statement gives of the start (any of its parts by flat_of_before) -/
def lw_At (p : Program) (s : State) (m : MethodId) (meth : Method) (c : Code) (b L : Nat) (xs : Nat → Int32) : Prop :=
  p.tables.exec = Jvm.exec ∧ c.code = code ∧ meth.sig.returnType = ret ∧ c.maxLocals = 4 ∧ s.vm.findClass R_law = some m.cls ∧ (∀ w ∈ lw_tbl, w.before #[Value.ref b] s = true) ∧ va_X b L xs s s.heap ∧ b < s.heap.size ∧ meth.locks = false ∧ (Jvm.Cond.and given_1 narrow_1).before #[Value.ref b] s = true

def hv_sc (xs : Nat → Int) (L : Nat) (i : Int) (f : Int → hRs) : hRs := if 0 ≤ i ∧ i < (L : Int) then f (xs i.toNat) else none
def hv_ZX (X : hv_X) : Int → hMem → State → Prop := match X with
  | ((_, _, _, _, s, _, args, below, _, _), _) => fun _ _ => lw_Z below args s
def hv_LW (X : hv_X) (b L : Nat) (xs : Nat → Int) : Prop := match X with
  | ((_, _, _, R, s, _, args, _, _, _), (_, _, ad, _, _)) => (∃ x32 : Nat → Int32, va_X b L x32 s s.heap ∧ ∀ j, xs j = (x32 j).toInt) ∧ L ≤ 3072 ∧ b < s.heap.size ∧ (∀ k, k < hv_N → s.heap.size ≤ ad k) ∧ R = room_1 ∧ args = #[Value.ref b]
section HVL
variable {X : hv_X} {cc : ByteArray} {nL : Nat} {own : String} {ret0 : Option FieldType} {d RC RS cells slots : Nat} {Q : Int → hMem → State → Prop} {t : hRs} {mem : hMem} {E : hv_E} {lv lv' : List (Nat × Value)} {st : List Value} {pc : Nat}
theorem hv_notA {ad : Nat → Nat} {b sz : Nat} (hb : b < sz) (ha : ∀ k, k < hv_N → sz ≤ ad k) : ¬ hv_A ad sz b := by
  intro h
  rcases h with ⟨k, hk, e⟩ | h
  · have := ha k hk
    omega
  · omega
theorem hv_scln {b L : Nat} {xs : Nat → Int} (hc : hv_C X cc nL own ret0 d RC RS) (hw : hv_LW X b L xs) (hd : decode cc pc = .ok (.arraylength, 1)) (kk : hv_R X nL cells slots Q t mem E lv (.int (hv_I (L : Int)) :: st) (pc + 1)) : hv_R X nL cells slots Q t mem E lv (.ref b :: st) pc := by
  obtain ⟨⟨p, l, e, R, s, m, args, below, meth, c⟩, D, ca, ad, ak, av⟩ := X
  obtain ⟨hx, hb, hml, hown, hts, hlocks, hr, hK, hStr, hfr, hlo, hRC, hRS, hD0⟩ := hc
  obtain ⟨⟨x32, hX, hxs⟩, hL, hbl, hadr, -, -⟩ := hw
  intro r m' ht H locs ls hP hD hS hl
  refine va_slen hx hb hX hbl (hv_notA hbl hadr) hS hd ?_
  have e : (nI L) = hv_I (L : Int) := by rw [hv_I, Int32.ofInt_eq_ofNat]; rfl
  first | (rw [e]; exact kk r m' ht H locs ls hP hD hS hl) | (have k2 := kk r m' ht H locs ls hP hD hS hl; rw [← e] at k2; exact k2)
theorem hv_scld {b L : Nat} {xs : Nat → Int} (hc : hv_C X cc nL own ret0 d RC RS) (hw : hv_LW X b L xs) {i : Int} {f : Int → hRs} (hd : decode cc pc = .ok (.iaload, 1)) (kk : ∀ v : Int, hv_R X nL cells slots Q (f v) mem E lv (.int (hv_I v) :: st) (pc + 1)) : hv_R X nL cells slots Q (hv_sc xs L i f) mem E lv (.int (hv_I i) :: .ref b :: st) pc := by
  obtain ⟨⟨p, l, e, R, s, m, args, below, meth, c⟩, D, ca, ad, ak, av⟩ := X
  obtain ⟨hx, hb, hml, hown, hts, hlocks, hr, hK, hStr, hfr, hlo, hRC, hRS, hD0⟩ := hc
  obtain ⟨⟨x32, hX, hxs⟩, hL, hbl, hadr, -, -⟩ := hw
  intro r m' ht H locs ls hP hD hS hl
  unfold hv_sc at ht
  by_cases h : 0 ≤ i ∧ i < (L : Int)
  · rw [if_pos h] at ht
    refine va_sld hx hb hX hbl (hv_notA hbl hadr) hS (hv_vp_in h (by omega)) hd ?_
    have e : x32 (hv_I i).toNatClampNeg = hv_I (xs i.toNat) := by
      rw [hv_I_nat h (by omega), hxs, hv_I, Int32.ofInt_toInt]
    rw [e]
    exact kk _ r m' ht H locs ls hP hD hS hl
  · rw [if_neg h] at ht; cases ht
theorem hv_lawret {b L : Nat} {xs : Nat → Int} (hc : hv_C X code nL own ret d RC RS) (hw : hv_LW X b L xs) (hd : decode code pc = .ok (.ireturn, 1)) (h1 : cells ≤ 600000) (h2 : slots ≤ 7302250) : hv_R X nL cells slots (hv_ZX X) t mem E lv [.int (hv_I 1)] pc := by
  obtain ⟨⟨p, l, e, R, s, m, args, below, meth, c⟩, D, ca, ad, ak, av⟩ := X
  obtain ⟨hx, hb, hml, hown, hts, hlocks, hr, hK, hStr, hfr, hlo, hRC, hRS, hD0⟩ := hc
  obtain ⟨-, hL, hbl, hadr, hroom, hargs⟩ := hw
  subst hroom
  subst hargs
  intro r m' ht H locs ls hP hD hS hl
  refine va_forget (fun q hq => ?_) (W.widen h1 h2 (lw_ret hx hb hr hlocks hd))
  rcases hS.2.2 q hq with ⟨k, hk, e⟩ | h
  · rw [e]; exact hadr k hk
  · exact h
theorem hv_callVi2 (hc : hv_C X cc nL own ret0 d RC RS) {dd mc ms idx n k ci maxL : Nat} {y : MethodName} {ycc : ByteArray} {yret : Option FieldType} {as : (Nat → Nat) → (Nat → Nat) → (Nat → Nat) → List Value} {t0 : hRs} {f : Int → hMem → hRs} {As rest : List Value} {fs : List (Option Nat)} (hM : hv_Met dd mc ms 0 y ycc maxL yret as mem t0) (hy : hv_YV y ycc maxL yret n) (hl0 : Cond.methodLink own idx y ∈ hv_tbl) (hk : hv_SH k = some (.inr (ci, fs))) (hq : (vwCl[ci]?).map (fun q => q.1) = some y.cls) (has : as (hv_ad X) (hv_ak X) (hv_av X) = .ref (hv_ad X k) :: As) (hn : As.length = n) (hst : st = As.reverse ++ .ref (hv_ad X k) :: rest) (hcat : (rest.map fun v => v.category).sum ≤ 8) (hdd : dd + 1 ≤ d) (hcell : cells + mc ≤ RC) (hslot : slots + ms ≤ RS) (hd : decode cc pc = .ok (.invokevirtual idx, 3)) (kk : ∀ (r0 : Int) (m0 : hMem), hv_R X nL (cells + mc) (slots + ms) Q (f r0 m0) m0 E lv (.int (hv_I r0) :: rest) (pc + 3)) : hv_R X nL cells slots Q (hv_b t0 f) mem E lv st pc := hv_callV hc hM hy hl0 hk hq has hn hst hcat hdd hcell hslot hd kk
end HVL
def K_law_212 (xs : Nat → Int) (L : Nat) (R18 : Int → hMem → hRs) (x3 : Int) (mem : hMem) : hRs := hv_sc xs L (x3 + 1) (fun v1 => hv_sc xs L (x3 + 2) (fun v2 => hv_sc xs L (x3 + 3) (fun v3 => hv_sc xs L (x3 + 4) (fun v4 => hv_sc xs L (x3 + 5) (fun v5 => hv_b (f_X10_feed v1 v2 v3 v4 v5 mem) (fun r6 m7 => hv_sc xs L (x3 + 1) (fun v8 => hv_sc xs L (x3 + 2) (fun v9 => hv_sc xs L (x3 + 3) (fun v10 => hv_sc xs L (x3 + 4) (fun v11 => hv_sc xs L (x3 + 5) (fun v12 => hv_b (f_X11_feed v8 v9 v10 v11 v12 m7) (fun r13 m14 => hv_eq r6 r13 (hv_set (x3 + 6) (fun y15 => R18 y15 m14)) (none)))))))))))))
set_option maxRecDepth 100000 in
theorem gK_law_212 {X : hv_X} {bS L : Nat} {xs : Nat → Int} (hc : hv_C X cL_law 4 RL ret 2048 600000 7302250) (hw : hv_LW X bS L xs) {C S : Nat} (hC : C + 2 ≤ 600000) (hS : S + 60 ≤ 7302250) (R18 : Int → hMem → hRs) (hR18 : ∀ (x3 : Int) (mem : hMem), hv_R X 4 (C + 2) (S + 60) (hv_ZX X) (R18 x3 mem) mem [] [(0, .ref bS), (1, .ref (hv_ad X 0)), (2, .ref (hv_ad X 65)), (3, .int (hv_I x3))] [] 18) (x3 : Int) (mem : hMem) : hv_R X 4 C S (hv_ZX X) (K_law_212 xs L R18 x3 mem) mem [] [(0, .ref bS), (1, .ref (hv_ad X 0)), (2, .ref (hv_ad X 65)), (3, .int (hv_I x3))] [] 212 := by
  unfold K_law_212
  refine hv_aload_n hc dL_law_212 rfl (hv_m 1 rfl) ?_
  refine hv_aload_n hc dL_law_213 rfl (hv_m 0 rfl) ?_
  refine hv_iload_n hc dL_law_214 rfl (hv_m 3 rfl) ?_
  refine hv_iconst hc dL_law_215 ?_
  refine hv_iadd hc dL_law_216 ?_
  refine hv_scld hc hw dL_law_217 (fun v1 => ?_)
  refine hv_aload_n hc dL_law_218 rfl (hv_m 0 rfl) ?_
  refine hv_iload_n hc dL_law_219 rfl (hv_m 3 rfl) ?_
  refine hv_iconst hc dL_law_220 ?_
  refine hv_iadd hc dL_law_221 ?_
  refine hv_scld hc hw dL_law_222 (fun v2 => ?_)
  refine hv_aload_n hc dL_law_223 rfl (hv_m 0 rfl) ?_
  refine hv_iload_n hc dL_law_224 rfl (hv_m 3 rfl) ?_
  refine hv_iconst hc dL_law_225 ?_
  refine hv_iadd hc dL_law_226 ?_
  refine hv_scld hc hw dL_law_227 (fun v3 => ?_)
  refine hv_aload_n hc dL_law_228 rfl (hv_m 0 rfl) ?_
  refine hv_iload_n hc dL_law_229 rfl (hv_m 3 rfl) ?_
  refine hv_iconst hc dL_law_230 ?_
  refine hv_iadd hc dL_law_231 ?_
  refine hv_scld hc hw dL_law_232 (fun v4 => ?_)
  refine hv_aload_n hc dL_law_233 rfl (hv_m 0 rfl) ?_
  refine hv_iload_n hc dL_law_234 rfl (hv_m 3 rfl) ?_
  refine hv_iconst hc dL_law_235 ?_
  refine hv_iadd hc dL_law_236 ?_
  refine hv_scld hc hw dL_law_237 (fun v5 => ?_)
  refine hv_callVi hc (c_X10_feed v1 v2 v3 v4 v5 mem) yv_X10_feed tw_339 sh_o_0 rfl rfl rfl rfl (Nat.le_of_ble_eq_true rfl) (Nat.le_of_ble_eq_true rfl) (by omega) (by omega) dL_law_238 (fun r6 m7 => ?_)
  refine hv_aload_n hc dL_law_241 rfl (hv_m 2 rfl) ?_
  refine hv_aload_n hc dL_law_242 rfl (hv_m 0 rfl) ?_
  refine hv_iload_n hc dL_law_243 rfl (hv_m 3 rfl) ?_
  refine hv_iconst hc dL_law_244 ?_
  refine hv_iadd hc dL_law_245 ?_
  refine hv_scld hc hw dL_law_246 (fun v8 => ?_)
  refine hv_aload_n hc dL_law_247 rfl (hv_m 0 rfl) ?_
  refine hv_iload_n hc dL_law_248 rfl (hv_m 3 rfl) ?_
  refine hv_iconst hc dL_law_249 ?_
  refine hv_iadd hc dL_law_250 ?_
  refine hv_scld hc hw dL_law_251 (fun v9 => ?_)
  refine hv_aload_n hc dL_law_252 rfl (hv_m 0 rfl) ?_
  refine hv_iload_n hc dL_law_253 rfl (hv_m 3 rfl) ?_
  refine hv_iconst hc dL_law_254 ?_
  refine hv_iadd hc dL_law_255 ?_
  refine hv_scld hc hw dL_law_256 (fun v10 => ?_)
  refine hv_aload_n hc dL_law_257 rfl (hv_m 0 rfl) ?_
  refine hv_iload_n hc dL_law_258 rfl (hv_m 3 rfl) ?_
  refine hv_iconst hc dL_law_259 ?_
  refine hv_iadd hc dL_law_260 ?_
  refine hv_scld hc hw dL_law_261 (fun v11 => ?_)
  refine hv_aload_n hc dL_law_262 rfl (hv_m 0 rfl) ?_
  refine hv_iload_n hc dL_law_263 rfl (hv_m 3 rfl) ?_
  refine hv_iconst hc dL_law_264 ?_
  refine hv_iadd hc dL_law_265 ?_
  refine hv_scld hc hw dL_law_266 (fun v12 => ?_)
  refine hv_callVi2 (mc := 1) (ms := 5) hc (c_X11_feed v8 v9 v10 v11 v12 m7) yv_X11_feed tw_1225 sh_o_65 rfl rfl rfl rfl (Nat.le_of_ble_eq_true rfl) (Nat.le_of_ble_eq_true rfl) (by omega) (by omega) dL_law_267 (fun r13 m14 => ?_)
  refine hv_icmp_eq (tgt := 1355) hc dL_law_270 (by decide) ?_ ?_
  · refine hv_iinc_s (lvf := fun y15 => [(3, .int (hv_I y15)), (0, .ref bS), (1, .ref (hv_ad X 0)), (2, .ref (hv_ad X 65))]) hc dL_law_1355 (by decide) (hv_m 3 rfl) (fun _ => rfl) (fun y15 => ?_)
    refine hv_goto (tgt := 18) hc dL_law_1358 (by decide) ?_
    refine hv_widen (c2 := C + 2) (s2 := S + 60) (by omega) (by omega) ?_
    exact hv_pick [1, 2, 3, 0] rfl (hR18 y15 m14)
  · exact hv_none
def K_law_275 (xs : Nat → Int) (L : Nat) (R18 : Int → hMem → hRs) (x3 : Int) (mem : hMem) : hRs := hv_sc xs L (x3 + 1) (fun v1 => hv_b (f_X10_end v1 mem) (fun r2 m3 => hv_sc xs L (x3 + 1) (fun v4 => hv_b (f_X11_end v4 m3) (fun r5 m6 => hv_eq r2 r5 (hv_set (x3 + 6) (fun y7 => R18 y7 m6)) (none)))))
set_option maxRecDepth 100000 in
theorem gK_law_275 {X : hv_X} {bS L : Nat} {xs : Nat → Int} (hc : hv_C X cL_law 4 RL ret 2048 600000 7302250) (hw : hv_LW X bS L xs) {C S : Nat} (hC : C + 2 ≤ 600000) (hS : S + 60 ≤ 7302250) (R18 : Int → hMem → hRs) (hR18 : ∀ (x3 : Int) (mem : hMem), hv_R X 4 (C + 2) (S + 60) (hv_ZX X) (R18 x3 mem) mem [] [(0, .ref bS), (1, .ref (hv_ad X 0)), (2, .ref (hv_ad X 65)), (3, .int (hv_I x3))] [] 18) (x3 : Int) (mem : hMem) : hv_R X 4 C S (hv_ZX X) (K_law_275 xs L R18 x3 mem) mem [] [(0, .ref bS), (1, .ref (hv_ad X 0)), (2, .ref (hv_ad X 65)), (3, .int (hv_I x3))] [] 275 := by
  unfold K_law_275
  refine hv_aload_n hc dL_law_275 rfl (hv_m 1 rfl) ?_
  refine hv_aload_n hc dL_law_276 rfl (hv_m 0 rfl) ?_
  refine hv_iload_n hc dL_law_277 rfl (hv_m 3 rfl) ?_
  refine hv_iconst hc dL_law_278 ?_
  refine hv_iadd hc dL_law_279 ?_
  refine hv_scld hc hw dL_law_280 (fun v1 => ?_)
  refine hv_callVi hc (c_X10_end v1 mem) yv_X10_end tw_354 sh_o_0 rfl rfl rfl rfl (Nat.le_of_ble_eq_true rfl) (Nat.le_of_ble_eq_true rfl) (by omega) (by omega) dL_law_281 (fun r2 m3 => ?_)
  refine hv_aload_n hc dL_law_284 rfl (hv_m 2 rfl) ?_
  refine hv_aload_n hc dL_law_285 rfl (hv_m 0 rfl) ?_
  refine hv_iload_n hc dL_law_286 rfl (hv_m 3 rfl) ?_
  refine hv_iconst hc dL_law_287 ?_
  refine hv_iadd hc dL_law_288 ?_
  refine hv_scld hc hw dL_law_289 (fun v4 => ?_)
  refine hv_callVi hc (c_X11_end v4 m3) yv_X11_end tw_1229 sh_o_65 rfl rfl rfl rfl (Nat.le_of_ble_eq_true rfl) (Nat.le_of_ble_eq_true rfl) (by omega) (by omega) dL_law_290 (fun r5 m6 => ?_)
  refine hv_icmp_eq (tgt := 1355) hc dL_law_293 (by decide) ?_ ?_
  · refine hv_iinc_s (lvf := fun y7 => [(3, .int (hv_I y7)), (0, .ref bS), (1, .ref (hv_ad X 0)), (2, .ref (hv_ad X 65))]) hc dL_law_1355 (by decide) (hv_m 3 rfl) (fun _ => rfl) (fun y7 => ?_)
    refine hv_goto (tgt := 18) hc dL_law_1358 (by decide) ?_
    refine hv_widen (c2 := C + 2) (s2 := S + 60) (by omega) (by omega) ?_
    exact hv_pick [1, 2, 3, 0] rfl (hR18 y7 m6)
  · exact hv_none
def K_law_298 (xs : Nat → Int) (L : Nat) (R18 : Int → hMem → hRs) (x3 : Int) (mem : hMem) : hRs := hv_b (f_X10_plan mem) (fun r1 m2 => hv_b (f_X11_plan m2) (fun r3 m4 => hv_eq r1 r3 (hv_set (x3 + 6) (fun y5 => R18 y5 m4)) (none)))
set_option maxRecDepth 100000 in
theorem gK_law_298 {X : hv_X} {bS L : Nat} {xs : Nat → Int} (hc : hv_C X cL_law 4 RL ret 2048 600000 7302250) (hw : hv_LW X bS L xs) {C S : Nat} (hC : C + 2 ≤ 600000) (hS : S + 60 ≤ 7302250) (R18 : Int → hMem → hRs) (hR18 : ∀ (x3 : Int) (mem : hMem), hv_R X 4 (C + 2) (S + 60) (hv_ZX X) (R18 x3 mem) mem [] [(0, .ref bS), (1, .ref (hv_ad X 0)), (2, .ref (hv_ad X 65)), (3, .int (hv_I x3))] [] 18) (x3 : Int) (mem : hMem) : hv_R X 4 C S (hv_ZX X) (K_law_298 xs L R18 x3 mem) mem [] [(0, .ref bS), (1, .ref (hv_ad X 0)), (2, .ref (hv_ad X 65)), (3, .int (hv_I x3))] [] 298 := by
  unfold K_law_298
  refine hv_aload_n hc dL_law_298 rfl (hv_m 1 rfl) ?_
  refine hv_callVi hc (c_X10_plan mem) yv_X10_plan tw_362 sh_o_0 rfl rfl rfl rfl (Nat.le_of_ble_eq_true rfl) (Nat.le_of_ble_eq_true rfl) (by omega) (by omega) dL_law_299 (fun r1 m2 => ?_)
  refine hv_aload_n hc dL_law_302 rfl (hv_m 2 rfl) ?_
  refine hv_callVi hc (c_X11_plan m2) yv_X11_plan tw_1236 sh_o_65 rfl rfl rfl rfl (Nat.le_of_ble_eq_true rfl) (Nat.le_of_ble_eq_true rfl) (by omega) (by omega) dL_law_303 (fun r3 m4 => ?_)
  refine hv_icmp_eq (tgt := 1355) hc dL_law_306 (by decide) ?_ ?_
  · refine hv_iinc_s (lvf := fun y5 => [(3, .int (hv_I y5)), (0, .ref bS), (1, .ref (hv_ad X 0)), (2, .ref (hv_ad X 65))]) hc dL_law_1355 (by decide) (hv_m 3 rfl) (fun _ => rfl) (fun y5 => ?_)
    refine hv_goto (tgt := 18) hc dL_law_1358 (by decide) ?_
    refine hv_widen (c2 := C + 2) (s2 := S + 60) (by omega) (by omega) ?_
    exact hv_pick [1, 2, 3, 0] rfl (hR18 y5 m4)
  · exact hv_none
def K_law_311 (xs : Nat → Int) (L : Nat) (R18 : Int → hMem → hRs) (x3 : Int) (mem : hMem) : hRs := hv_sc xs L (x3 + 1) (fun v1 => hv_b (f_X10_fault v1 mem) (fun r2 m3 => hv_sc xs L (x3 + 1) (fun v4 => hv_b (f_X11_fault v4 m3) (fun r5 m6 => hv_eq r2 r5 (hv_set (x3 + 6) (fun y7 => R18 y7 m6)) (none)))))
set_option maxRecDepth 100000 in
theorem gK_law_311 {X : hv_X} {bS L : Nat} {xs : Nat → Int} (hc : hv_C X cL_law 4 RL ret 2048 600000 7302250) (hw : hv_LW X bS L xs) {C S : Nat} (hC : C + 2 ≤ 600000) (hS : S + 60 ≤ 7302250) (R18 : Int → hMem → hRs) (hR18 : ∀ (x3 : Int) (mem : hMem), hv_R X 4 (C + 2) (S + 60) (hv_ZX X) (R18 x3 mem) mem [] [(0, .ref bS), (1, .ref (hv_ad X 0)), (2, .ref (hv_ad X 65)), (3, .int (hv_I x3))] [] 18) (x3 : Int) (mem : hMem) : hv_R X 4 C S (hv_ZX X) (K_law_311 xs L R18 x3 mem) mem [] [(0, .ref bS), (1, .ref (hv_ad X 0)), (2, .ref (hv_ad X 65)), (3, .int (hv_I x3))] [] 311 := by
  unfold K_law_311
  refine hv_aload_n hc dL_law_311 rfl (hv_m 1 rfl) ?_
  refine hv_aload_n hc dL_law_312 rfl (hv_m 0 rfl) ?_
  refine hv_iload_n hc dL_law_313 rfl (hv_m 3 rfl) ?_
  refine hv_iconst hc dL_law_314 ?_
  refine hv_iadd hc dL_law_315 ?_
  refine hv_scld hc hw dL_law_316 (fun v1 => ?_)
  refine hv_callVi hc (c_X10_fault v1 mem) yv_X10_fault tw_783 sh_o_0 rfl rfl rfl rfl (Nat.le_of_ble_eq_true rfl) (Nat.le_of_ble_eq_true rfl) (by omega) (by omega) dL_law_317 (fun r2 m3 => ?_)
  refine hv_aload_n hc dL_law_320 rfl (hv_m 2 rfl) ?_
  refine hv_aload_n hc dL_law_321 rfl (hv_m 0 rfl) ?_
  refine hv_iload_n hc dL_law_322 rfl (hv_m 3 rfl) ?_
  refine hv_iconst hc dL_law_323 ?_
  refine hv_iadd hc dL_law_324 ?_
  refine hv_scld hc hw dL_law_325 (fun v4 => ?_)
  refine hv_callVi hc (c_X11_fault v4 m3) yv_X11_fault tw_1296 sh_o_65 rfl rfl rfl rfl (Nat.le_of_ble_eq_true rfl) (Nat.le_of_ble_eq_true rfl) (by omega) (by omega) dL_law_326 (fun r5 m6 => ?_)
  refine hv_icmp_eq (tgt := 1355) hc dL_law_329 (by decide) ?_ ?_
  · refine hv_iinc_s (lvf := fun y7 => [(3, .int (hv_I y7)), (0, .ref bS), (1, .ref (hv_ad X 0)), (2, .ref (hv_ad X 65))]) hc dL_law_1355 (by decide) (hv_m 3 rfl) (fun _ => rfl) (fun y7 => ?_)
    refine hv_goto (tgt := 18) hc dL_law_1358 (by decide) ?_
    refine hv_widen (c2 := C + 2) (s2 := S + 60) (by omega) (by omega) ?_
    exact hv_pick [1, 2, 3, 0] rfl (hR18 y7 m6)
  · exact hv_none
def K_law_334 (xs : Nat → Int) (L : Nat) (R18 : Int → hMem → hRs) (x3 : Int) (mem : hMem) : hRs := hv_sc xs L (x3 + 1) (fun v1 => hv_b (f_X10_count v1 mem) (fun r2 m3 => hv_sc xs L (x3 + 1) (fun v4 => hv_b (f_X11_count v4 m3) (fun r5 m6 => hv_eq r2 r5 (hv_set (x3 + 6) (fun y7 => R18 y7 m6)) (none)))))
set_option maxRecDepth 100000 in
theorem gK_law_334 {X : hv_X} {bS L : Nat} {xs : Nat → Int} (hc : hv_C X cL_law 4 RL ret 2048 600000 7302250) (hw : hv_LW X bS L xs) {C S : Nat} (hC : C + 2 ≤ 600000) (hS : S + 60 ≤ 7302250) (R18 : Int → hMem → hRs) (hR18 : ∀ (x3 : Int) (mem : hMem), hv_R X 4 (C + 2) (S + 60) (hv_ZX X) (R18 x3 mem) mem [] [(0, .ref bS), (1, .ref (hv_ad X 0)), (2, .ref (hv_ad X 65)), (3, .int (hv_I x3))] [] 18) (x3 : Int) (mem : hMem) : hv_R X 4 C S (hv_ZX X) (K_law_334 xs L R18 x3 mem) mem [] [(0, .ref bS), (1, .ref (hv_ad X 0)), (2, .ref (hv_ad X 65)), (3, .int (hv_I x3))] [] 334 := by
  unfold K_law_334
  refine hv_aload_n hc dL_law_334 rfl (hv_m 1 rfl) ?_
  refine hv_aload_n hc dL_law_335 rfl (hv_m 0 rfl) ?_
  refine hv_iload_n hc dL_law_336 rfl (hv_m 3 rfl) ?_
  refine hv_iconst hc dL_law_337 ?_
  refine hv_iadd hc dL_law_338 ?_
  refine hv_scld hc hw dL_law_339 (fun v1 => ?_)
  refine hv_callVi hc (c_X10_count v1 mem) yv_X10_count tw_795 sh_o_0 rfl rfl rfl rfl (Nat.le_of_ble_eq_true rfl) (Nat.le_of_ble_eq_true rfl) (by omega) (by omega) dL_law_340 (fun r2 m3 => ?_)
  refine hv_aload_n hc dL_law_343 rfl (hv_m 2 rfl) ?_
  refine hv_aload_n hc dL_law_344 rfl (hv_m 0 rfl) ?_
  refine hv_iload_n hc dL_law_345 rfl (hv_m 3 rfl) ?_
  refine hv_iconst hc dL_law_346 ?_
  refine hv_iadd hc dL_law_347 ?_
  refine hv_scld hc hw dL_law_348 (fun v4 => ?_)
  refine hv_callVi hc (c_X11_count v4 m3) yv_X11_count tw_1300 sh_o_65 rfl rfl rfl rfl (Nat.le_of_ble_eq_true rfl) (Nat.le_of_ble_eq_true rfl) (by omega) (by omega) dL_law_349 (fun r5 m6 => ?_)
  refine hv_icmp_eq (tgt := 1355) hc dL_law_352 (by decide) ?_ ?_
  · refine hv_iinc_s (lvf := fun y7 => [(3, .int (hv_I y7)), (0, .ref bS), (1, .ref (hv_ad X 0)), (2, .ref (hv_ad X 65))]) hc dL_law_1355 (by decide) (hv_m 3 rfl) (fun _ => rfl) (fun y7 => ?_)
    refine hv_goto (tgt := 18) hc dL_law_1358 (by decide) ?_
    refine hv_widen (c2 := C + 2) (s2 := S + 60) (by omega) (by omega) ?_
    exact hv_pick [1, 2, 3, 0] rfl (hR18 y7 m6)
  · exact hv_none
def K_law_357 (xs : Nat → Int) (L : Nat) (R18 : Int → hMem → hRs) (x3 : Int) (mem : hMem) : hRs := hv_sc xs L (x3 + 1) (fun v1 => hv_sc xs L (x3 + 2) (fun v2 => hv_b (f_X10_version v1 v2 mem) (fun r3 m4 => hv_sc xs L (x3 + 1) (fun v5 => hv_sc xs L (x3 + 2) (fun v6 => hv_b (f_X11_version v5 v6 m4) (fun r7 m8 => hv_eq r3 r7 (hv_set (x3 + 6) (fun y9 => R18 y9 m8)) (none)))))))
set_option maxRecDepth 100000 in
theorem gK_law_357 {X : hv_X} {bS L : Nat} {xs : Nat → Int} (hc : hv_C X cL_law 4 RL ret 2048 600000 7302250) (hw : hv_LW X bS L xs) {C S : Nat} (hC : C + 2 ≤ 600000) (hS : S + 60 ≤ 7302250) (R18 : Int → hMem → hRs) (hR18 : ∀ (x3 : Int) (mem : hMem), hv_R X 4 (C + 2) (S + 60) (hv_ZX X) (R18 x3 mem) mem [] [(0, .ref bS), (1, .ref (hv_ad X 0)), (2, .ref (hv_ad X 65)), (3, .int (hv_I x3))] [] 18) (x3 : Int) (mem : hMem) : hv_R X 4 C S (hv_ZX X) (K_law_357 xs L R18 x3 mem) mem [] [(0, .ref bS), (1, .ref (hv_ad X 0)), (2, .ref (hv_ad X 65)), (3, .int (hv_I x3))] [] 357 := by
  unfold K_law_357
  refine hv_aload_n hc dL_law_357 rfl (hv_m 1 rfl) ?_
  refine hv_aload_n hc dL_law_358 rfl (hv_m 0 rfl) ?_
  refine hv_iload_n hc dL_law_359 rfl (hv_m 3 rfl) ?_
  refine hv_iconst hc dL_law_360 ?_
  refine hv_iadd hc dL_law_361 ?_
  refine hv_scld hc hw dL_law_362 (fun v1 => ?_)
  refine hv_aload_n hc dL_law_363 rfl (hv_m 0 rfl) ?_
  refine hv_iload_n hc dL_law_364 rfl (hv_m 3 rfl) ?_
  refine hv_iconst hc dL_law_365 ?_
  refine hv_iadd hc dL_law_366 ?_
  refine hv_scld hc hw dL_law_367 (fun v2 => ?_)
  refine hv_callVi hc (c_X10_version v1 v2 mem) yv_X10_version tw_799 sh_o_0 rfl rfl rfl rfl (Nat.le_of_ble_eq_true rfl) (Nat.le_of_ble_eq_true rfl) (by omega) (by omega) dL_law_368 (fun r3 m4 => ?_)
  refine hv_aload_n hc dL_law_371 rfl (hv_m 2 rfl) ?_
  refine hv_aload_n hc dL_law_372 rfl (hv_m 0 rfl) ?_
  refine hv_iload_n hc dL_law_373 rfl (hv_m 3 rfl) ?_
  refine hv_iconst hc dL_law_374 ?_
  refine hv_iadd hc dL_law_375 ?_
  refine hv_scld hc hw dL_law_376 (fun v5 => ?_)
  refine hv_aload_n hc dL_law_377 rfl (hv_m 0 rfl) ?_
  refine hv_iload_n hc dL_law_378 rfl (hv_m 3 rfl) ?_
  refine hv_iconst hc dL_law_379 ?_
  refine hv_iadd hc dL_law_380 ?_
  refine hv_scld hc hw dL_law_381 (fun v6 => ?_)
  refine hv_callVi hc (c_X11_version v5 v6 m4) yv_X11_version tw_1304 sh_o_65 rfl rfl rfl rfl (Nat.le_of_ble_eq_true rfl) (Nat.le_of_ble_eq_true rfl) (by omega) (by omega) dL_law_382 (fun r7 m8 => ?_)
  refine hv_icmp_eq (tgt := 1355) hc dL_law_385 (by decide) ?_ ?_
  · refine hv_iinc_s (lvf := fun y9 => [(3, .int (hv_I y9)), (0, .ref bS), (1, .ref (hv_ad X 0)), (2, .ref (hv_ad X 65))]) hc dL_law_1355 (by decide) (hv_m 3 rfl) (fun _ => rfl) (fun y9 => ?_)
    refine hv_goto (tgt := 18) hc dL_law_1358 (by decide) ?_
    refine hv_widen (c2 := C + 2) (s2 := S + 60) (by omega) (by omega) ?_
    exact hv_pick [1, 2, 3, 0] rfl (hR18 y9 m8)
  · exact hv_none
def K_law_390 (xs : Nat → Int) (L : Nat) (R18 : Int → hMem → hRs) (x3 : Int) (mem : hMem) : hRs := hv_sc xs L (x3 + 1) (fun v1 => hv_sc xs L (x3 + 2) (fun v2 => hv_b (f_X10_job v1 v2 mem) (fun r3 m4 => hv_sc xs L (x3 + 1) (fun v5 => hv_sc xs L (x3 + 2) (fun v6 => hv_b (f_X11_job v5 v6 m4) (fun r7 m8 => hv_eq r3 r7 (hv_set (x3 + 6) (fun y9 => R18 y9 m8)) (none)))))))
set_option maxRecDepth 100000 in
theorem gK_law_390 {X : hv_X} {bS L : Nat} {xs : Nat → Int} (hc : hv_C X cL_law 4 RL ret 2048 600000 7302250) (hw : hv_LW X bS L xs) {C S : Nat} (hC : C + 2 ≤ 600000) (hS : S + 60 ≤ 7302250) (R18 : Int → hMem → hRs) (hR18 : ∀ (x3 : Int) (mem : hMem), hv_R X 4 (C + 2) (S + 60) (hv_ZX X) (R18 x3 mem) mem [] [(0, .ref bS), (1, .ref (hv_ad X 0)), (2, .ref (hv_ad X 65)), (3, .int (hv_I x3))] [] 18) (x3 : Int) (mem : hMem) : hv_R X 4 C S (hv_ZX X) (K_law_390 xs L R18 x3 mem) mem [] [(0, .ref bS), (1, .ref (hv_ad X 0)), (2, .ref (hv_ad X 65)), (3, .int (hv_I x3))] [] 390 := by
  unfold K_law_390
  refine hv_aload_n hc dL_law_390 rfl (hv_m 1 rfl) ?_
  refine hv_aload_n hc dL_law_391 rfl (hv_m 0 rfl) ?_
  refine hv_iload_n hc dL_law_392 rfl (hv_m 3 rfl) ?_
  refine hv_iconst hc dL_law_393 ?_
  refine hv_iadd hc dL_law_394 ?_
  refine hv_scld hc hw dL_law_395 (fun v1 => ?_)
  refine hv_aload_n hc dL_law_396 rfl (hv_m 0 rfl) ?_
  refine hv_iload_n hc dL_law_397 rfl (hv_m 3 rfl) ?_
  refine hv_iconst hc dL_law_398 ?_
  refine hv_iadd hc dL_law_399 ?_
  refine hv_scld hc hw dL_law_400 (fun v2 => ?_)
  refine hv_callVi hc (c_X10_job v1 v2 mem) yv_X10_job tw_820 sh_o_0 rfl rfl rfl rfl (Nat.le_of_ble_eq_true rfl) (Nat.le_of_ble_eq_true rfl) (by omega) (by omega) dL_law_401 (fun r3 m4 => ?_)
  refine hv_aload_n hc dL_law_404 rfl (hv_m 2 rfl) ?_
  refine hv_aload_n hc dL_law_405 rfl (hv_m 0 rfl) ?_
  refine hv_iload_n hc dL_law_406 rfl (hv_m 3 rfl) ?_
  refine hv_iconst hc dL_law_407 ?_
  refine hv_iadd hc dL_law_408 ?_
  refine hv_scld hc hw dL_law_409 (fun v5 => ?_)
  refine hv_aload_n hc dL_law_410 rfl (hv_m 0 rfl) ?_
  refine hv_iload_n hc dL_law_411 rfl (hv_m 3 rfl) ?_
  refine hv_iconst hc dL_law_412 ?_
  refine hv_iadd hc dL_law_413 ?_
  refine hv_scld hc hw dL_law_414 (fun v6 => ?_)
  refine hv_callVi hc (c_X11_job v5 v6 m4) yv_X11_job tw_1376 sh_o_65 rfl rfl rfl rfl (Nat.le_of_ble_eq_true rfl) (Nat.le_of_ble_eq_true rfl) (by omega) (by omega) dL_law_415 (fun r7 m8 => ?_)
  refine hv_icmp_eq (tgt := 1355) hc dL_law_418 (by decide) ?_ ?_
  · refine hv_iinc_s (lvf := fun y9 => [(3, .int (hv_I y9)), (0, .ref bS), (1, .ref (hv_ad X 0)), (2, .ref (hv_ad X 65))]) hc dL_law_1355 (by decide) (hv_m 3 rfl) (fun _ => rfl) (fun y9 => ?_)
    refine hv_goto (tgt := 18) hc dL_law_1358 (by decide) ?_
    refine hv_widen (c2 := C + 2) (s2 := S + 60) (by omega) (by omega) ?_
    exact hv_pick [1, 2, 3, 0] rfl (hR18 y9 m8)
  · exact hv_none
def K_law_423 (xs : Nat → Int) (L : Nat) (R18 : Int → hMem → hRs) (x3 : Int) (mem : hMem) : hRs := hv_sc xs L (x3 + 1) (fun v1 => hv_b (f_X10_size v1 mem) (fun r2 m3 => hv_sc xs L (x3 + 1) (fun v4 => hv_b (f_X11_size v4 m3) (fun r5 m6 => hv_eq r2 r5 (hv_set (x3 + 6) (fun y7 => R18 y7 m6)) (none)))))
set_option maxRecDepth 100000 in
theorem gK_law_423 {X : hv_X} {bS L : Nat} {xs : Nat → Int} (hc : hv_C X cL_law 4 RL ret 2048 600000 7302250) (hw : hv_LW X bS L xs) {C S : Nat} (hC : C + 2 ≤ 600000) (hS : S + 60 ≤ 7302250) (R18 : Int → hMem → hRs) (hR18 : ∀ (x3 : Int) (mem : hMem), hv_R X 4 (C + 2) (S + 60) (hv_ZX X) (R18 x3 mem) mem [] [(0, .ref bS), (1, .ref (hv_ad X 0)), (2, .ref (hv_ad X 65)), (3, .int (hv_I x3))] [] 18) (x3 : Int) (mem : hMem) : hv_R X 4 C S (hv_ZX X) (K_law_423 xs L R18 x3 mem) mem [] [(0, .ref bS), (1, .ref (hv_ad X 0)), (2, .ref (hv_ad X 65)), (3, .int (hv_I x3))] [] 423 := by
  unfold K_law_423
  refine hv_aload_n hc dL_law_423 rfl (hv_m 1 rfl) ?_
  refine hv_aload_n hc dL_law_424 rfl (hv_m 0 rfl) ?_
  refine hv_iload_n hc dL_law_425 rfl (hv_m 3 rfl) ?_
  refine hv_iconst hc dL_law_426 ?_
  refine hv_iadd hc dL_law_427 ?_
  refine hv_scld hc hw dL_law_428 (fun v1 => ?_)
  refine hv_callVi hc (c_X10_size v1 mem) yv_X10_size tw_833 sh_o_0 rfl rfl rfl rfl (Nat.le_of_ble_eq_true rfl) (Nat.le_of_ble_eq_true rfl) (by omega) (by omega) dL_law_429 (fun r2 m3 => ?_)
  refine hv_aload_n hc dL_law_432 rfl (hv_m 2 rfl) ?_
  refine hv_aload_n hc dL_law_433 rfl (hv_m 0 rfl) ?_
  refine hv_iload_n hc dL_law_434 rfl (hv_m 3 rfl) ?_
  refine hv_iconst hc dL_law_435 ?_
  refine hv_iadd hc dL_law_436 ?_
  refine hv_scld hc hw dL_law_437 (fun v4 => ?_)
  refine hv_callVi hc (c_X11_size v4 m3) yv_X11_size tw_1384 sh_o_65 rfl rfl rfl rfl (Nat.le_of_ble_eq_true rfl) (Nat.le_of_ble_eq_true rfl) (by omega) (by omega) dL_law_438 (fun r5 m6 => ?_)
  refine hv_icmp_eq (tgt := 1355) hc dL_law_441 (by decide) ?_ ?_
  · refine hv_iinc_s (lvf := fun y7 => [(3, .int (hv_I y7)), (0, .ref bS), (1, .ref (hv_ad X 0)), (2, .ref (hv_ad X 65))]) hc dL_law_1355 (by decide) (hv_m 3 rfl) (fun _ => rfl) (fun y7 => ?_)
    refine hv_goto (tgt := 18) hc dL_law_1358 (by decide) ?_
    refine hv_widen (c2 := C + 2) (s2 := S + 60) (by omega) (by omega) ?_
    exact hv_pick [1, 2, 3, 0] rfl (hR18 y7 m6)
  · exact hv_none
def K_law_446 (xs : Nat → Int) (L : Nat) (R18 : Int → hMem → hRs) (x3 : Int) (mem : hMem) : hRs := hv_sc xs L (x3 + 1) (fun v1 => hv_b (f_X10_least v1 mem) (fun r2 m3 => hv_sc xs L (x3 + 1) (fun v4 => hv_b (f_X11_least v4 m3) (fun r5 m6 => hv_eq r2 r5 (hv_set (x3 + 6) (fun y7 => R18 y7 m6)) (none)))))
set_option maxRecDepth 100000 in
theorem gK_law_446 {X : hv_X} {bS L : Nat} {xs : Nat → Int} (hc : hv_C X cL_law 4 RL ret 2048 600000 7302250) (hw : hv_LW X bS L xs) {C S : Nat} (hC : C + 2 ≤ 600000) (hS : S + 60 ≤ 7302250) (R18 : Int → hMem → hRs) (hR18 : ∀ (x3 : Int) (mem : hMem), hv_R X 4 (C + 2) (S + 60) (hv_ZX X) (R18 x3 mem) mem [] [(0, .ref bS), (1, .ref (hv_ad X 0)), (2, .ref (hv_ad X 65)), (3, .int (hv_I x3))] [] 18) (x3 : Int) (mem : hMem) : hv_R X 4 C S (hv_ZX X) (K_law_446 xs L R18 x3 mem) mem [] [(0, .ref bS), (1, .ref (hv_ad X 0)), (2, .ref (hv_ad X 65)), (3, .int (hv_I x3))] [] 446 := by
  unfold K_law_446
  refine hv_aload_n hc dL_law_446 rfl (hv_m 1 rfl) ?_
  refine hv_aload_n hc dL_law_447 rfl (hv_m 0 rfl) ?_
  refine hv_iload_n hc dL_law_448 rfl (hv_m 3 rfl) ?_
  refine hv_iconst hc dL_law_449 ?_
  refine hv_iadd hc dL_law_450 ?_
  refine hv_scld hc hw dL_law_451 (fun v1 => ?_)
  refine hv_callVi hc (c_X10_least v1 mem) yv_X10_least tw_838 sh_o_0 rfl rfl rfl rfl (Nat.le_of_ble_eq_true rfl) (Nat.le_of_ble_eq_true rfl) (by omega) (by omega) dL_law_452 (fun r2 m3 => ?_)
  refine hv_aload_n hc dL_law_455 rfl (hv_m 2 rfl) ?_
  refine hv_aload_n hc dL_law_456 rfl (hv_m 0 rfl) ?_
  refine hv_iload_n hc dL_law_457 rfl (hv_m 3 rfl) ?_
  refine hv_iconst hc dL_law_458 ?_
  refine hv_iadd hc dL_law_459 ?_
  refine hv_scld hc hw dL_law_460 (fun v4 => ?_)
  refine hv_callVi hc (c_X11_least v4 m3) yv_X11_least tw_1404 sh_o_65 rfl rfl rfl rfl (Nat.le_of_ble_eq_true rfl) (Nat.le_of_ble_eq_true rfl) (by omega) (by omega) dL_law_461 (fun r5 m6 => ?_)
  refine hv_icmp_eq (tgt := 1355) hc dL_law_464 (by decide) ?_ ?_
  · refine hv_iinc_s (lvf := fun y7 => [(3, .int (hv_I y7)), (0, .ref bS), (1, .ref (hv_ad X 0)), (2, .ref (hv_ad X 65))]) hc dL_law_1355 (by decide) (hv_m 3 rfl) (fun _ => rfl) (fun y7 => ?_)
    refine hv_goto (tgt := 18) hc dL_law_1358 (by decide) ?_
    refine hv_widen (c2 := C + 2) (s2 := S + 60) (by omega) (by omega) ?_
    exact hv_pick [1, 2, 3, 0] rfl (hR18 y7 m6)
  · exact hv_none
def K_law_469 (xs : Nat → Int) (L : Nat) (R18 : Int → hMem → hRs) (x3 : Int) (mem : hMem) : hRs := hv_sc xs L (x3 + 1) (fun v1 => hv_sc xs L (x3 + 2) (fun v2 => hv_b (f_X10_place v1 v2 mem) (fun r3 m4 => hv_sc xs L (x3 + 1) (fun v5 => hv_sc xs L (x3 + 2) (fun v6 => hv_b (f_X11_place v5 v6 m4) (fun r7 m8 => hv_eq r3 r7 (hv_set (x3 + 6) (fun y9 => R18 y9 m8)) (none)))))))
set_option maxRecDepth 100000 in
theorem gK_law_469 {X : hv_X} {bS L : Nat} {xs : Nat → Int} (hc : hv_C X cL_law 4 RL ret 2048 600000 7302250) (hw : hv_LW X bS L xs) {C S : Nat} (hC : C + 2 ≤ 600000) (hS : S + 60 ≤ 7302250) (R18 : Int → hMem → hRs) (hR18 : ∀ (x3 : Int) (mem : hMem), hv_R X 4 (C + 2) (S + 60) (hv_ZX X) (R18 x3 mem) mem [] [(0, .ref bS), (1, .ref (hv_ad X 0)), (2, .ref (hv_ad X 65)), (3, .int (hv_I x3))] [] 18) (x3 : Int) (mem : hMem) : hv_R X 4 C S (hv_ZX X) (K_law_469 xs L R18 x3 mem) mem [] [(0, .ref bS), (1, .ref (hv_ad X 0)), (2, .ref (hv_ad X 65)), (3, .int (hv_I x3))] [] 469 := by
  unfold K_law_469
  refine hv_aload_n hc dL_law_469 rfl (hv_m 1 rfl) ?_
  refine hv_aload_n hc dL_law_470 rfl (hv_m 0 rfl) ?_
  refine hv_iload_n hc dL_law_471 rfl (hv_m 3 rfl) ?_
  refine hv_iconst hc dL_law_472 ?_
  refine hv_iadd hc dL_law_473 ?_
  refine hv_scld hc hw dL_law_474 (fun v1 => ?_)
  refine hv_aload_n hc dL_law_475 rfl (hv_m 0 rfl) ?_
  refine hv_iload_n hc dL_law_476 rfl (hv_m 3 rfl) ?_
  refine hv_iconst hc dL_law_477 ?_
  refine hv_iadd hc dL_law_478 ?_
  refine hv_scld hc hw dL_law_479 (fun v2 => ?_)
  refine hv_callVi hc (c_X10_place v1 v2 mem) yv_X10_place tw_842 sh_o_0 rfl rfl rfl rfl (Nat.le_of_ble_eq_true rfl) (Nat.le_of_ble_eq_true rfl) (by omega) (by omega) dL_law_480 (fun r3 m4 => ?_)
  refine hv_aload_n hc dL_law_483 rfl (hv_m 2 rfl) ?_
  refine hv_aload_n hc dL_law_484 rfl (hv_m 0 rfl) ?_
  refine hv_iload_n hc dL_law_485 rfl (hv_m 3 rfl) ?_
  refine hv_iconst hc dL_law_486 ?_
  refine hv_iadd hc dL_law_487 ?_
  refine hv_scld hc hw dL_law_488 (fun v5 => ?_)
  refine hv_aload_n hc dL_law_489 rfl (hv_m 0 rfl) ?_
  refine hv_iload_n hc dL_law_490 rfl (hv_m 3 rfl) ?_
  refine hv_iconst hc dL_law_491 ?_
  refine hv_iadd hc dL_law_492 ?_
  refine hv_scld hc hw dL_law_493 (fun v6 => ?_)
  refine hv_callVi hc (c_X11_place v5 v6 m4) yv_X11_place tw_1412 sh_o_65 rfl rfl rfl rfl (Nat.le_of_ble_eq_true rfl) (Nat.le_of_ble_eq_true rfl) (by omega) (by omega) dL_law_494 (fun r7 m8 => ?_)
  refine hv_icmp_eq (tgt := 1355) hc dL_law_497 (by decide) ?_ ?_
  · refine hv_iinc_s (lvf := fun y9 => [(3, .int (hv_I y9)), (0, .ref bS), (1, .ref (hv_ad X 0)), (2, .ref (hv_ad X 65))]) hc dL_law_1355 (by decide) (hv_m 3 rfl) (fun _ => rfl) (fun y9 => ?_)
    refine hv_goto (tgt := 18) hc dL_law_1358 (by decide) ?_
    refine hv_widen (c2 := C + 2) (s2 := S + 60) (by omega) (by omega) ?_
    exact hv_pick [1, 2, 3, 0] rfl (hR18 y9 m8)
  · exact hv_none
def K_law_502 (xs : Nat → Int) (L : Nat) (R18 : Int → hMem → hRs) (x3 : Int) (mem : hMem) : hRs := hv_sc xs L (x3 + 1) (fun v1 => hv_sc xs L (x3 + 2) (fun v2 => hv_b (f_X10_times v1 v2 mem) (fun r3 m4 => hv_sc xs L (x3 + 1) (fun v5 => hv_sc xs L (x3 + 2) (fun v6 => hv_b (f_X11_times v5 v6 m4) (fun r7 m8 => hv_eq r3 r7 (hv_set (x3 + 6) (fun y9 => R18 y9 m8)) (none)))))))
set_option maxRecDepth 100000 in
theorem gK_law_502 {X : hv_X} {bS L : Nat} {xs : Nat → Int} (hc : hv_C X cL_law 4 RL ret 2048 600000 7302250) (hw : hv_LW X bS L xs) {C S : Nat} (hC : C + 2 ≤ 600000) (hS : S + 60 ≤ 7302250) (R18 : Int → hMem → hRs) (hR18 : ∀ (x3 : Int) (mem : hMem), hv_R X 4 (C + 2) (S + 60) (hv_ZX X) (R18 x3 mem) mem [] [(0, .ref bS), (1, .ref (hv_ad X 0)), (2, .ref (hv_ad X 65)), (3, .int (hv_I x3))] [] 18) (x3 : Int) (mem : hMem) : hv_R X 4 C S (hv_ZX X) (K_law_502 xs L R18 x3 mem) mem [] [(0, .ref bS), (1, .ref (hv_ad X 0)), (2, .ref (hv_ad X 65)), (3, .int (hv_I x3))] [] 502 := by
  unfold K_law_502
  refine hv_aload_n hc dL_law_502 rfl (hv_m 1 rfl) ?_
  refine hv_aload_n hc dL_law_503 rfl (hv_m 0 rfl) ?_
  refine hv_iload_n hc dL_law_504 rfl (hv_m 3 rfl) ?_
  refine hv_iconst hc dL_law_505 ?_
  refine hv_iadd hc dL_law_506 ?_
  refine hv_scld hc hw dL_law_507 (fun v1 => ?_)
  refine hv_aload_n hc dL_law_508 rfl (hv_m 0 rfl) ?_
  refine hv_iload_n hc dL_law_509 rfl (hv_m 3 rfl) ?_
  refine hv_iconst hc dL_law_510 ?_
  refine hv_iadd hc dL_law_511 ?_
  refine hv_scld hc hw dL_law_512 (fun v2 => ?_)
  refine hv_callVi hc (c_X10_times v1 v2 mem) yv_X10_times tw_846 sh_o_0 rfl rfl rfl rfl (Nat.le_of_ble_eq_true rfl) (Nat.le_of_ble_eq_true rfl) (by omega) (by omega) dL_law_513 (fun r3 m4 => ?_)
  refine hv_aload_n hc dL_law_516 rfl (hv_m 2 rfl) ?_
  refine hv_aload_n hc dL_law_517 rfl (hv_m 0 rfl) ?_
  refine hv_iload_n hc dL_law_518 rfl (hv_m 3 rfl) ?_
  refine hv_iconst hc dL_law_519 ?_
  refine hv_iadd hc dL_law_520 ?_
  refine hv_scld hc hw dL_law_521 (fun v5 => ?_)
  refine hv_aload_n hc dL_law_522 rfl (hv_m 0 rfl) ?_
  refine hv_iload_n hc dL_law_523 rfl (hv_m 3 rfl) ?_
  refine hv_iconst hc dL_law_524 ?_
  refine hv_iadd hc dL_law_525 ?_
  refine hv_scld hc hw dL_law_526 (fun v6 => ?_)
  refine hv_callVi hc (c_X11_times v5 v6 m4) yv_X11_times tw_1420 sh_o_65 rfl rfl rfl rfl (Nat.le_of_ble_eq_true rfl) (Nat.le_of_ble_eq_true rfl) (by omega) (by omega) dL_law_527 (fun r7 m8 => ?_)
  refine hv_icmp_eq (tgt := 1355) hc dL_law_530 (by decide) ?_ ?_
  · refine hv_iinc_s (lvf := fun y9 => [(3, .int (hv_I y9)), (0, .ref bS), (1, .ref (hv_ad X 0)), (2, .ref (hv_ad X 65))]) hc dL_law_1355 (by decide) (hv_m 3 rfl) (fun _ => rfl) (fun y9 => ?_)
    refine hv_goto (tgt := 18) hc dL_law_1358 (by decide) ?_
    refine hv_widen (c2 := C + 2) (s2 := S + 60) (by omega) (by omega) ?_
    exact hv_pick [1, 2, 3, 0] rfl (hR18 y9 m8)
  · exact hv_none
def K_law_535 (xs : Nat → Int) (L : Nat) (R18 : Int → hMem → hRs) (x3 : Int) (mem : hMem) : hRs := hv_sc xs L (x3 + 1) (fun v1 => hv_b (f_X10_trees v1 mem) (fun r2 m3 => hv_sc xs L (x3 + 1) (fun v4 => hv_b (f_X11_trees v4 m3) (fun r5 m6 => hv_eq r2 r5 (hv_set (x3 + 6) (fun y7 => R18 y7 m6)) (none)))))
set_option maxRecDepth 100000 in
theorem gK_law_535 {X : hv_X} {bS L : Nat} {xs : Nat → Int} (hc : hv_C X cL_law 4 RL ret 2048 600000 7302250) (hw : hv_LW X bS L xs) {C S : Nat} (hC : C + 2 ≤ 600000) (hS : S + 60 ≤ 7302250) (R18 : Int → hMem → hRs) (hR18 : ∀ (x3 : Int) (mem : hMem), hv_R X 4 (C + 2) (S + 60) (hv_ZX X) (R18 x3 mem) mem [] [(0, .ref bS), (1, .ref (hv_ad X 0)), (2, .ref (hv_ad X 65)), (3, .int (hv_I x3))] [] 18) (x3 : Int) (mem : hMem) : hv_R X 4 C S (hv_ZX X) (K_law_535 xs L R18 x3 mem) mem [] [(0, .ref bS), (1, .ref (hv_ad X 0)), (2, .ref (hv_ad X 65)), (3, .int (hv_I x3))] [] 535 := by
  unfold K_law_535
  refine hv_aload_n hc dL_law_535 rfl (hv_m 1 rfl) ?_
  refine hv_aload_n hc dL_law_536 rfl (hv_m 0 rfl) ?_
  refine hv_iload_n hc dL_law_537 rfl (hv_m 3 rfl) ?_
  refine hv_iconst hc dL_law_538 ?_
  refine hv_iadd hc dL_law_539 ?_
  refine hv_scld hc hw dL_law_540 (fun v1 => ?_)
  refine hv_callVi hc (c_X10_trees v1 mem) yv_X10_trees tw_854 sh_o_0 rfl rfl rfl rfl (Nat.le_of_ble_eq_true rfl) (Nat.le_of_ble_eq_true rfl) (by omega) (by omega) dL_law_541 (fun r2 m3 => ?_)
  refine hv_aload_n hc dL_law_544 rfl (hv_m 2 rfl) ?_
  refine hv_aload_n hc dL_law_545 rfl (hv_m 0 rfl) ?_
  refine hv_iload_n hc dL_law_546 rfl (hv_m 3 rfl) ?_
  refine hv_iconst hc dL_law_547 ?_
  refine hv_iadd hc dL_law_548 ?_
  refine hv_scld hc hw dL_law_549 (fun v4 => ?_)
  refine hv_callVi hc (c_X11_trees v4 m3) yv_X11_trees tw_1424 sh_o_65 rfl rfl rfl rfl (Nat.le_of_ble_eq_true rfl) (Nat.le_of_ble_eq_true rfl) (by omega) (by omega) dL_law_550 (fun r5 m6 => ?_)
  refine hv_icmp_eq (tgt := 1355) hc dL_law_553 (by decide) ?_ ?_
  · refine hv_iinc_s (lvf := fun y7 => [(3, .int (hv_I y7)), (0, .ref bS), (1, .ref (hv_ad X 0)), (2, .ref (hv_ad X 65))]) hc dL_law_1355 (by decide) (hv_m 3 rfl) (fun _ => rfl) (fun y7 => ?_)
    refine hv_goto (tgt := 18) hc dL_law_1358 (by decide) ?_
    refine hv_widen (c2 := C + 2) (s2 := S + 60) (by omega) (by omega) ?_
    exact hv_pick [1, 2, 3, 0] rfl (hR18 y7 m6)
  · exact hv_none
def K_law_558 (xs : Nat → Int) (L : Nat) (R18 : Int → hMem → hRs) (x3 : Int) (mem : hMem) : hRs := hv_sc xs L (x3 + 1) (fun v1 => hv_sc xs L (x3 + 2) (fun v2 => hv_b (f_X10_rank v1 v2 mem) (fun r3 m4 => hv_sc xs L (x3 + 1) (fun v5 => hv_sc xs L (x3 + 2) (fun v6 => hv_b (f_X11_rank v5 v6 m4) (fun r7 m8 => hv_eq r3 r7 (hv_set (x3 + 6) (fun y9 => R18 y9 m8)) (none)))))))
set_option maxRecDepth 100000 in
theorem gK_law_558 {X : hv_X} {bS L : Nat} {xs : Nat → Int} (hc : hv_C X cL_law 4 RL ret 2048 600000 7302250) (hw : hv_LW X bS L xs) {C S : Nat} (hC : C + 2 ≤ 600000) (hS : S + 60 ≤ 7302250) (R18 : Int → hMem → hRs) (hR18 : ∀ (x3 : Int) (mem : hMem), hv_R X 4 (C + 2) (S + 60) (hv_ZX X) (R18 x3 mem) mem [] [(0, .ref bS), (1, .ref (hv_ad X 0)), (2, .ref (hv_ad X 65)), (3, .int (hv_I x3))] [] 18) (x3 : Int) (mem : hMem) : hv_R X 4 C S (hv_ZX X) (K_law_558 xs L R18 x3 mem) mem [] [(0, .ref bS), (1, .ref (hv_ad X 0)), (2, .ref (hv_ad X 65)), (3, .int (hv_I x3))] [] 558 := by
  unfold K_law_558
  refine hv_aload_n hc dL_law_558 rfl (hv_m 1 rfl) ?_
  refine hv_aload_n hc dL_law_559 rfl (hv_m 0 rfl) ?_
  refine hv_iload_n hc dL_law_560 rfl (hv_m 3 rfl) ?_
  refine hv_iconst hc dL_law_561 ?_
  refine hv_iadd hc dL_law_562 ?_
  refine hv_scld hc hw dL_law_563 (fun v1 => ?_)
  refine hv_aload_n hc dL_law_564 rfl (hv_m 0 rfl) ?_
  refine hv_iload_n hc dL_law_565 rfl (hv_m 3 rfl) ?_
  refine hv_iconst hc dL_law_566 ?_
  refine hv_iadd hc dL_law_567 ?_
  refine hv_scld hc hw dL_law_568 (fun v2 => ?_)
  refine hv_callVi hc (c_X10_rank v1 v2 mem) yv_X10_rank tw_870 sh_o_0 rfl rfl rfl rfl (Nat.le_of_ble_eq_true rfl) (Nat.le_of_ble_eq_true rfl) (by omega) (by omega) dL_law_569 (fun r3 m4 => ?_)
  refine hv_aload_n hc dL_law_572 rfl (hv_m 2 rfl) ?_
  refine hv_aload_n hc dL_law_573 rfl (hv_m 0 rfl) ?_
  refine hv_iload_n hc dL_law_574 rfl (hv_m 3 rfl) ?_
  refine hv_iconst hc dL_law_575 ?_
  refine hv_iadd hc dL_law_576 ?_
  refine hv_scld hc hw dL_law_577 (fun v5 => ?_)
  refine hv_aload_n hc dL_law_578 rfl (hv_m 0 rfl) ?_
  refine hv_iload_n hc dL_law_579 rfl (hv_m 3 rfl) ?_
  refine hv_iconst hc dL_law_580 ?_
  refine hv_iadd hc dL_law_581 ?_
  refine hv_scld hc hw dL_law_582 (fun v6 => ?_)
  refine hv_callVi hc (c_X11_rank v5 v6 m4) yv_X11_rank tw_1436 sh_o_65 rfl rfl rfl rfl (Nat.le_of_ble_eq_true rfl) (Nat.le_of_ble_eq_true rfl) (by omega) (by omega) dL_law_583 (fun r7 m8 => ?_)
  refine hv_icmp_eq (tgt := 1355) hc dL_law_586 (by decide) ?_ ?_
  · refine hv_iinc_s (lvf := fun y9 => [(3, .int (hv_I y9)), (0, .ref bS), (1, .ref (hv_ad X 0)), (2, .ref (hv_ad X 65))]) hc dL_law_1355 (by decide) (hv_m 3 rfl) (fun _ => rfl) (fun y9 => ?_)
    refine hv_goto (tgt := 18) hc dL_law_1358 (by decide) ?_
    refine hv_widen (c2 := C + 2) (s2 := S + 60) (by omega) (by omega) ?_
    exact hv_pick [1, 2, 3, 0] rfl (hR18 y9 m8)
  · exact hv_none
def K_law_591 (xs : Nat → Int) (L : Nat) (R18 : Int → hMem → hRs) (x3 : Int) (mem : hMem) : hRs := hv_sc xs L (x3 + 1) (fun v1 => hv_sc xs L (x3 + 2) (fun v2 => hv_b (f_X10_holds v1 v2 mem) (fun r3 m4 => hv_sc xs L (x3 + 1) (fun v5 => hv_sc xs L (x3 + 2) (fun v6 => hv_b (f_X11_holds v5 v6 m4) (fun r7 m8 => hv_eq r3 r7 (hv_set (x3 + 6) (fun y9 => R18 y9 m8)) (none)))))))
set_option maxRecDepth 100000 in
theorem gK_law_591 {X : hv_X} {bS L : Nat} {xs : Nat → Int} (hc : hv_C X cL_law 4 RL ret 2048 600000 7302250) (hw : hv_LW X bS L xs) {C S : Nat} (hC : C + 2 ≤ 600000) (hS : S + 60 ≤ 7302250) (R18 : Int → hMem → hRs) (hR18 : ∀ (x3 : Int) (mem : hMem), hv_R X 4 (C + 2) (S + 60) (hv_ZX X) (R18 x3 mem) mem [] [(0, .ref bS), (1, .ref (hv_ad X 0)), (2, .ref (hv_ad X 65)), (3, .int (hv_I x3))] [] 18) (x3 : Int) (mem : hMem) : hv_R X 4 C S (hv_ZX X) (K_law_591 xs L R18 x3 mem) mem [] [(0, .ref bS), (1, .ref (hv_ad X 0)), (2, .ref (hv_ad X 65)), (3, .int (hv_I x3))] [] 591 := by
  unfold K_law_591
  refine hv_aload_n hc dL_law_591 rfl (hv_m 1 rfl) ?_
  refine hv_aload_n hc dL_law_592 rfl (hv_m 0 rfl) ?_
  refine hv_iload_n hc dL_law_593 rfl (hv_m 3 rfl) ?_
  refine hv_iconst hc dL_law_594 ?_
  refine hv_iadd hc dL_law_595 ?_
  refine hv_scld hc hw dL_law_596 (fun v1 => ?_)
  refine hv_aload_n hc dL_law_597 rfl (hv_m 0 rfl) ?_
  refine hv_iload_n hc dL_law_598 rfl (hv_m 3 rfl) ?_
  refine hv_iconst hc dL_law_599 ?_
  refine hv_iadd hc dL_law_600 ?_
  refine hv_scld hc hw dL_law_601 (fun v2 => ?_)
  refine hv_callVi hc (c_X10_holds v1 v2 mem) yv_X10_holds tw_887 sh_o_0 rfl rfl rfl rfl (Nat.le_of_ble_eq_true rfl) (Nat.le_of_ble_eq_true rfl) (by omega) (by omega) dL_law_602 (fun r3 m4 => ?_)
  refine hv_aload_n hc dL_law_605 rfl (hv_m 2 rfl) ?_
  refine hv_aload_n hc dL_law_606 rfl (hv_m 0 rfl) ?_
  refine hv_iload_n hc dL_law_607 rfl (hv_m 3 rfl) ?_
  refine hv_iconst hc dL_law_608 ?_
  refine hv_iadd hc dL_law_609 ?_
  refine hv_scld hc hw dL_law_610 (fun v5 => ?_)
  refine hv_aload_n hc dL_law_611 rfl (hv_m 0 rfl) ?_
  refine hv_iload_n hc dL_law_612 rfl (hv_m 3 rfl) ?_
  refine hv_iconst hc dL_law_613 ?_
  refine hv_iadd hc dL_law_614 ?_
  refine hv_scld hc hw dL_law_615 (fun v6 => ?_)
  refine hv_callVi hc (c_X11_holds v5 v6 m4) yv_X11_holds tw_1448 sh_o_65 rfl rfl rfl rfl (Nat.le_of_ble_eq_true rfl) (Nat.le_of_ble_eq_true rfl) (by omega) (by omega) dL_law_616 (fun r7 m8 => ?_)
  refine hv_icmp_eq (tgt := 1355) hc dL_law_619 (by decide) ?_ ?_
  · refine hv_iinc_s (lvf := fun y9 => [(3, .int (hv_I y9)), (0, .ref bS), (1, .ref (hv_ad X 0)), (2, .ref (hv_ad X 65))]) hc dL_law_1355 (by decide) (hv_m 3 rfl) (fun _ => rfl) (fun y9 => ?_)
    refine hv_goto (tgt := 18) hc dL_law_1358 (by decide) ?_
    refine hv_widen (c2 := C + 2) (s2 := S + 60) (by omega) (by omega) ?_
    exact hv_pick [1, 2, 3, 0] rfl (hR18 y9 m8)
  · exact hv_none
def K_law_624 (xs : Nat → Int) (L : Nat) (R18 : Int → hMem → hRs) (x3 : Int) (mem : hMem) : hRs := hv_sc xs L (x3 + 1) (fun v1 => hv_sc xs L (x3 + 2) (fun v2 => hv_b (f_X10_singles v1 v2 mem) (fun r3 m4 => hv_sc xs L (x3 + 1) (fun v5 => hv_sc xs L (x3 + 2) (fun v6 => hv_b (f_X11_singles v5 v6 m4) (fun r7 m8 => hv_eq r3 r7 (hv_set (x3 + 6) (fun y9 => R18 y9 m8)) (none)))))))
set_option maxRecDepth 100000 in
theorem gK_law_624 {X : hv_X} {bS L : Nat} {xs : Nat → Int} (hc : hv_C X cL_law 4 RL ret 2048 600000 7302250) (hw : hv_LW X bS L xs) {C S : Nat} (hC : C + 2 ≤ 600000) (hS : S + 60 ≤ 7302250) (R18 : Int → hMem → hRs) (hR18 : ∀ (x3 : Int) (mem : hMem), hv_R X 4 (C + 2) (S + 60) (hv_ZX X) (R18 x3 mem) mem [] [(0, .ref bS), (1, .ref (hv_ad X 0)), (2, .ref (hv_ad X 65)), (3, .int (hv_I x3))] [] 18) (x3 : Int) (mem : hMem) : hv_R X 4 C S (hv_ZX X) (K_law_624 xs L R18 x3 mem) mem [] [(0, .ref bS), (1, .ref (hv_ad X 0)), (2, .ref (hv_ad X 65)), (3, .int (hv_I x3))] [] 624 := by
  unfold K_law_624
  refine hv_aload_n hc dL_law_624 rfl (hv_m 1 rfl) ?_
  refine hv_aload_n hc dL_law_625 rfl (hv_m 0 rfl) ?_
  refine hv_iload_n hc dL_law_626 rfl (hv_m 3 rfl) ?_
  refine hv_iconst hc dL_law_627 ?_
  refine hv_iadd hc dL_law_628 ?_
  refine hv_scld hc hw dL_law_629 (fun v1 => ?_)
  refine hv_aload_n hc dL_law_630 rfl (hv_m 0 rfl) ?_
  refine hv_iload_n hc dL_law_631 rfl (hv_m 3 rfl) ?_
  refine hv_iconst hc dL_law_632 ?_
  refine hv_iadd hc dL_law_633 ?_
  refine hv_scld hc hw dL_law_634 (fun v2 => ?_)
  refine hv_callVi hc (c_X10_singles v1 v2 mem) yv_X10_singles tw_892 sh_o_0 rfl rfl rfl rfl (Nat.le_of_ble_eq_true rfl) (Nat.le_of_ble_eq_true rfl) (by omega) (by omega) dL_law_635 (fun r3 m4 => ?_)
  refine hv_aload_n hc dL_law_638 rfl (hv_m 2 rfl) ?_
  refine hv_aload_n hc dL_law_639 rfl (hv_m 0 rfl) ?_
  refine hv_iload_n hc dL_law_640 rfl (hv_m 3 rfl) ?_
  refine hv_iconst hc dL_law_641 ?_
  refine hv_iadd hc dL_law_642 ?_
  refine hv_scld hc hw dL_law_643 (fun v5 => ?_)
  refine hv_aload_n hc dL_law_644 rfl (hv_m 0 rfl) ?_
  refine hv_iload_n hc dL_law_645 rfl (hv_m 3 rfl) ?_
  refine hv_iconst hc dL_law_646 ?_
  refine hv_iadd hc dL_law_647 ?_
  refine hv_scld hc hw dL_law_648 (fun v6 => ?_)
  refine hv_callVi hc (c_X11_singles v5 v6 m4) yv_X11_singles tw_1452 sh_o_65 rfl rfl rfl rfl (Nat.le_of_ble_eq_true rfl) (Nat.le_of_ble_eq_true rfl) (by omega) (by omega) dL_law_649 (fun r7 m8 => ?_)
  refine hv_icmp_eq (tgt := 1355) hc dL_law_652 (by decide) ?_ ?_
  · refine hv_iinc_s (lvf := fun y9 => [(3, .int (hv_I y9)), (0, .ref bS), (1, .ref (hv_ad X 0)), (2, .ref (hv_ad X 65))]) hc dL_law_1355 (by decide) (hv_m 3 rfl) (fun _ => rfl) (fun y9 => ?_)
    refine hv_goto (tgt := 18) hc dL_law_1358 (by decide) ?_
    refine hv_widen (c2 := C + 2) (s2 := S + 60) (by omega) (by omega) ?_
    exact hv_pick [1, 2, 3, 0] rfl (hR18 y9 m8)
  · exact hv_none
def K_law_657 (xs : Nat → Int) (L : Nat) (R18 : Int → hMem → hRs) (x3 : Int) (mem : hMem) : hRs := hv_sc xs L (x3 + 1) (fun v1 => hv_sc xs L (x3 + 2) (fun v2 => hv_b (f_X10_head v1 v2 mem) (fun r3 m4 => hv_sc xs L (x3 + 1) (fun v5 => hv_sc xs L (x3 + 2) (fun v6 => hv_b (f_X11_head v5 v6 m4) (fun r7 m8 => hv_eq r3 r7 (hv_set (x3 + 6) (fun y9 => R18 y9 m8)) (none)))))))
set_option maxRecDepth 100000 in
theorem gK_law_657 {X : hv_X} {bS L : Nat} {xs : Nat → Int} (hc : hv_C X cL_law 4 RL ret 2048 600000 7302250) (hw : hv_LW X bS L xs) {C S : Nat} (hC : C + 2 ≤ 600000) (hS : S + 60 ≤ 7302250) (R18 : Int → hMem → hRs) (hR18 : ∀ (x3 : Int) (mem : hMem), hv_R X 4 (C + 2) (S + 60) (hv_ZX X) (R18 x3 mem) mem [] [(0, .ref bS), (1, .ref (hv_ad X 0)), (2, .ref (hv_ad X 65)), (3, .int (hv_I x3))] [] 18) (x3 : Int) (mem : hMem) : hv_R X 4 C S (hv_ZX X) (K_law_657 xs L R18 x3 mem) mem [] [(0, .ref bS), (1, .ref (hv_ad X 0)), (2, .ref (hv_ad X 65)), (3, .int (hv_I x3))] [] 657 := by
  unfold K_law_657
  refine hv_aload_n hc dL_law_657 rfl (hv_m 1 rfl) ?_
  refine hv_aload_n hc dL_law_658 rfl (hv_m 0 rfl) ?_
  refine hv_iload_n hc dL_law_659 rfl (hv_m 3 rfl) ?_
  refine hv_iconst hc dL_law_660 ?_
  refine hv_iadd hc dL_law_661 ?_
  refine hv_scld hc hw dL_law_662 (fun v1 => ?_)
  refine hv_aload_n hc dL_law_663 rfl (hv_m 0 rfl) ?_
  refine hv_iload_n hc dL_law_664 rfl (hv_m 3 rfl) ?_
  refine hv_iconst hc dL_law_665 ?_
  refine hv_iadd hc dL_law_666 ?_
  refine hv_scld hc hw dL_law_667 (fun v2 => ?_)
  refine hv_callVi hc (c_X10_head v1 v2 mem) yv_X10_head tw_898 sh_o_0 rfl rfl rfl rfl (Nat.le_of_ble_eq_true rfl) (Nat.le_of_ble_eq_true rfl) (by omega) (by omega) dL_law_668 (fun r3 m4 => ?_)
  refine hv_aload_n hc dL_law_671 rfl (hv_m 2 rfl) ?_
  refine hv_aload_n hc dL_law_672 rfl (hv_m 0 rfl) ?_
  refine hv_iload_n hc dL_law_673 rfl (hv_m 3 rfl) ?_
  refine hv_iconst hc dL_law_674 ?_
  refine hv_iadd hc dL_law_675 ?_
  refine hv_scld hc hw dL_law_676 (fun v5 => ?_)
  refine hv_aload_n hc dL_law_677 rfl (hv_m 0 rfl) ?_
  refine hv_iload_n hc dL_law_678 rfl (hv_m 3 rfl) ?_
  refine hv_iconst hc dL_law_679 ?_
  refine hv_iadd hc dL_law_680 ?_
  refine hv_scld hc hw dL_law_681 (fun v6 => ?_)
  refine hv_callVi hc (c_X11_head v5 v6 m4) yv_X11_head tw_1456 sh_o_65 rfl rfl rfl rfl (Nat.le_of_ble_eq_true rfl) (Nat.le_of_ble_eq_true rfl) (by omega) (by omega) dL_law_682 (fun r7 m8 => ?_)
  refine hv_icmp_eq (tgt := 1355) hc dL_law_685 (by decide) ?_ ?_
  · refine hv_iinc_s (lvf := fun y9 => [(3, .int (hv_I y9)), (0, .ref bS), (1, .ref (hv_ad X 0)), (2, .ref (hv_ad X 65))]) hc dL_law_1355 (by decide) (hv_m 3 rfl) (fun _ => rfl) (fun y9 => ?_)
    refine hv_goto (tgt := 18) hc dL_law_1358 (by decide) ?_
    refine hv_widen (c2 := C + 2) (s2 := S + 60) (by omega) (by omega) ?_
    exact hv_pick [1, 2, 3, 0] rfl (hR18 y9 m8)
  · exact hv_none
def K_law_690 (xs : Nat → Int) (L : Nat) (R18 : Int → hMem → hRs) (x3 : Int) (mem : hMem) : hRs := hv_sc xs L (x3 + 1) (fun v1 => hv_b (f_X10_depth v1 mem) (fun r2 m3 => hv_sc xs L (x3 + 1) (fun v4 => hv_b (f_X11_depth v4 m3) (fun r5 m6 => hv_eq r2 r5 (hv_set (x3 + 6) (fun y7 => R18 y7 m6)) (none)))))
set_option maxRecDepth 100000 in
theorem gK_law_690 {X : hv_X} {bS L : Nat} {xs : Nat → Int} (hc : hv_C X cL_law 4 RL ret 2048 600000 7302250) (hw : hv_LW X bS L xs) {C S : Nat} (hC : C + 2 ≤ 600000) (hS : S + 60 ≤ 7302250) (R18 : Int → hMem → hRs) (hR18 : ∀ (x3 : Int) (mem : hMem), hv_R X 4 (C + 2) (S + 60) (hv_ZX X) (R18 x3 mem) mem [] [(0, .ref bS), (1, .ref (hv_ad X 0)), (2, .ref (hv_ad X 65)), (3, .int (hv_I x3))] [] 18) (x3 : Int) (mem : hMem) : hv_R X 4 C S (hv_ZX X) (K_law_690 xs L R18 x3 mem) mem [] [(0, .ref bS), (1, .ref (hv_ad X 0)), (2, .ref (hv_ad X 65)), (3, .int (hv_I x3))] [] 690 := by
  unfold K_law_690
  refine hv_aload_n hc dL_law_690 rfl (hv_m 1 rfl) ?_
  refine hv_aload_n hc dL_law_691 rfl (hv_m 0 rfl) ?_
  refine hv_iload_n hc dL_law_692 rfl (hv_m 3 rfl) ?_
  refine hv_iconst hc dL_law_693 ?_
  refine hv_iadd hc dL_law_694 ?_
  refine hv_scld hc hw dL_law_695 (fun v1 => ?_)
  refine hv_callVi hc (c_X10_depth v1 mem) yv_X10_depth tw_904 sh_o_0 rfl rfl rfl rfl (Nat.le_of_ble_eq_true rfl) (Nat.le_of_ble_eq_true rfl) (by omega) (by omega) dL_law_696 (fun r2 m3 => ?_)
  refine hv_aload_n hc dL_law_699 rfl (hv_m 2 rfl) ?_
  refine hv_aload_n hc dL_law_700 rfl (hv_m 0 rfl) ?_
  refine hv_iload_n hc dL_law_701 rfl (hv_m 3 rfl) ?_
  refine hv_iconst hc dL_law_702 ?_
  refine hv_iadd hc dL_law_703 ?_
  refine hv_scld hc hw dL_law_704 (fun v4 => ?_)
  refine hv_callVi hc (c_X11_depth v4 m3) yv_X11_depth tw_1460 sh_o_65 rfl rfl rfl rfl (Nat.le_of_ble_eq_true rfl) (Nat.le_of_ble_eq_true rfl) (by omega) (by omega) dL_law_705 (fun r5 m6 => ?_)
  refine hv_icmp_eq (tgt := 1355) hc dL_law_708 (by decide) ?_ ?_
  · refine hv_iinc_s (lvf := fun y7 => [(3, .int (hv_I y7)), (0, .ref bS), (1, .ref (hv_ad X 0)), (2, .ref (hv_ad X 65))]) hc dL_law_1355 (by decide) (hv_m 3 rfl) (fun _ => rfl) (fun y7 => ?_)
    refine hv_goto (tgt := 18) hc dL_law_1358 (by decide) ?_
    refine hv_widen (c2 := C + 2) (s2 := S + 60) (by omega) (by omega) ?_
    exact hv_pick [1, 2, 3, 0] rfl (hR18 y7 m6)
  · exact hv_none
def K_law_713 (xs : Nat → Int) (L : Nat) (R18 : Int → hMem → hRs) (x3 : Int) (mem : hMem) : hRs := hv_sc xs L (x3 + 1) (fun v1 => hv_b (f_X10_parts v1 mem) (fun r2 m3 => hv_sc xs L (x3 + 1) (fun v4 => hv_b (f_X11_parts v4 m3) (fun r5 m6 => hv_eq r2 r5 (hv_set (x3 + 6) (fun y7 => R18 y7 m6)) (none)))))
set_option maxRecDepth 100000 in
theorem gK_law_713 {X : hv_X} {bS L : Nat} {xs : Nat → Int} (hc : hv_C X cL_law 4 RL ret 2048 600000 7302250) (hw : hv_LW X bS L xs) {C S : Nat} (hC : C + 2 ≤ 600000) (hS : S + 60 ≤ 7302250) (R18 : Int → hMem → hRs) (hR18 : ∀ (x3 : Int) (mem : hMem), hv_R X 4 (C + 2) (S + 60) (hv_ZX X) (R18 x3 mem) mem [] [(0, .ref bS), (1, .ref (hv_ad X 0)), (2, .ref (hv_ad X 65)), (3, .int (hv_I x3))] [] 18) (x3 : Int) (mem : hMem) : hv_R X 4 C S (hv_ZX X) (K_law_713 xs L R18 x3 mem) mem [] [(0, .ref bS), (1, .ref (hv_ad X 0)), (2, .ref (hv_ad X 65)), (3, .int (hv_I x3))] [] 713 := by
  unfold K_law_713
  refine hv_aload_n hc dL_law_713 rfl (hv_m 1 rfl) ?_
  refine hv_aload_n hc dL_law_714 rfl (hv_m 0 rfl) ?_
  refine hv_iload_n hc dL_law_715 rfl (hv_m 3 rfl) ?_
  refine hv_iconst hc dL_law_716 ?_
  refine hv_iadd hc dL_law_717 ?_
  refine hv_scld hc hw dL_law_718 (fun v1 => ?_)
  refine hv_callVi hc (c_X10_parts v1 mem) yv_X10_parts tw_910 sh_o_0 rfl rfl rfl rfl (Nat.le_of_ble_eq_true rfl) (Nat.le_of_ble_eq_true rfl) (by omega) (by omega) dL_law_719 (fun r2 m3 => ?_)
  refine hv_aload_n hc dL_law_722 rfl (hv_m 2 rfl) ?_
  refine hv_aload_n hc dL_law_723 rfl (hv_m 0 rfl) ?_
  refine hv_iload_n hc dL_law_724 rfl (hv_m 3 rfl) ?_
  refine hv_iconst hc dL_law_725 ?_
  refine hv_iadd hc dL_law_726 ?_
  refine hv_scld hc hw dL_law_727 (fun v4 => ?_)
  refine hv_callVi hc (c_X11_parts v4 m3) yv_X11_parts tw_1473 sh_o_65 rfl rfl rfl rfl (Nat.le_of_ble_eq_true rfl) (Nat.le_of_ble_eq_true rfl) (by omega) (by omega) dL_law_728 (fun r5 m6 => ?_)
  refine hv_icmp_eq (tgt := 1355) hc dL_law_731 (by decide) ?_ ?_
  · refine hv_iinc_s (lvf := fun y7 => [(3, .int (hv_I y7)), (0, .ref bS), (1, .ref (hv_ad X 0)), (2, .ref (hv_ad X 65))]) hc dL_law_1355 (by decide) (hv_m 3 rfl) (fun _ => rfl) (fun y7 => ?_)
    refine hv_goto (tgt := 18) hc dL_law_1358 (by decide) ?_
    refine hv_widen (c2 := C + 2) (s2 := S + 60) (by omega) (by omega) ?_
    exact hv_pick [1, 2, 3, 0] rfl (hR18 y7 m6)
  · exact hv_none
def K_law_736 (xs : Nat → Int) (L : Nat) (R18 : Int → hMem → hRs) (x3 : Int) (mem : hMem) : hRs := hv_sc xs L (x3 + 1) (fun v1 => hv_b (f_X10_own v1 mem) (fun r2 m3 => hv_sc xs L (x3 + 1) (fun v4 => hv_b (f_X11_own v4 m3) (fun r5 m6 => hv_eq r2 r5 (hv_set (x3 + 6) (fun y7 => R18 y7 m6)) (none)))))
set_option maxRecDepth 100000 in
theorem gK_law_736 {X : hv_X} {bS L : Nat} {xs : Nat → Int} (hc : hv_C X cL_law 4 RL ret 2048 600000 7302250) (hw : hv_LW X bS L xs) {C S : Nat} (hC : C + 2 ≤ 600000) (hS : S + 60 ≤ 7302250) (R18 : Int → hMem → hRs) (hR18 : ∀ (x3 : Int) (mem : hMem), hv_R X 4 (C + 2) (S + 60) (hv_ZX X) (R18 x3 mem) mem [] [(0, .ref bS), (1, .ref (hv_ad X 0)), (2, .ref (hv_ad X 65)), (3, .int (hv_I x3))] [] 18) (x3 : Int) (mem : hMem) : hv_R X 4 C S (hv_ZX X) (K_law_736 xs L R18 x3 mem) mem [] [(0, .ref bS), (1, .ref (hv_ad X 0)), (2, .ref (hv_ad X 65)), (3, .int (hv_I x3))] [] 736 := by
  unfold K_law_736
  refine hv_aload_n hc dL_law_736 rfl (hv_m 1 rfl) ?_
  refine hv_aload_n hc dL_law_737 rfl (hv_m 0 rfl) ?_
  refine hv_iload_n hc dL_law_738 rfl (hv_m 3 rfl) ?_
  refine hv_iconst hc dL_law_739 ?_
  refine hv_iadd hc dL_law_740 ?_
  refine hv_scld hc hw dL_law_741 (fun v1 => ?_)
  refine hv_callVi hc (c_X10_own v1 mem) yv_X10_own tw_945 sh_o_0 rfl rfl rfl rfl (Nat.le_of_ble_eq_true rfl) (Nat.le_of_ble_eq_true rfl) (by omega) (by omega) dL_law_742 (fun r2 m3 => ?_)
  refine hv_aload_n hc dL_law_745 rfl (hv_m 2 rfl) ?_
  refine hv_aload_n hc dL_law_746 rfl (hv_m 0 rfl) ?_
  refine hv_iload_n hc dL_law_747 rfl (hv_m 3 rfl) ?_
  refine hv_iconst hc dL_law_748 ?_
  refine hv_iadd hc dL_law_749 ?_
  refine hv_scld hc hw dL_law_750 (fun v4 => ?_)
  refine hv_callVi hc (c_X11_own v4 m3) yv_X11_own tw_1493 sh_o_65 rfl rfl rfl rfl (Nat.le_of_ble_eq_true rfl) (Nat.le_of_ble_eq_true rfl) (by omega) (by omega) dL_law_751 (fun r5 m6 => ?_)
  refine hv_icmp_eq (tgt := 1355) hc dL_law_754 (by decide) ?_ ?_
  · refine hv_iinc_s (lvf := fun y7 => [(3, .int (hv_I y7)), (0, .ref bS), (1, .ref (hv_ad X 0)), (2, .ref (hv_ad X 65))]) hc dL_law_1355 (by decide) (hv_m 3 rfl) (fun _ => rfl) (fun y7 => ?_)
    refine hv_goto (tgt := 18) hc dL_law_1358 (by decide) ?_
    refine hv_widen (c2 := C + 2) (s2 := S + 60) (by omega) (by omega) ?_
    exact hv_pick [1, 2, 3, 0] rfl (hR18 y7 m6)
  · exact hv_none
def K_law_759 (xs : Nat → Int) (L : Nat) (R18 : Int → hMem → hRs) (x3 : Int) (mem : hMem) : hRs := hv_sc xs L (x3 + 1) (fun v1 => hv_sc xs L (x3 + 2) (fun v2 => hv_b (f_X10_shared v1 v2 mem) (fun r3 m4 => hv_sc xs L (x3 + 1) (fun v5 => hv_sc xs L (x3 + 2) (fun v6 => hv_b (f_X11_shared v5 v6 m4) (fun r7 m8 => hv_eq r3 r7 (hv_set (x3 + 6) (fun y9 => R18 y9 m8)) (none)))))))
set_option maxRecDepth 100000 in
theorem gK_law_759 {X : hv_X} {bS L : Nat} {xs : Nat → Int} (hc : hv_C X cL_law 4 RL ret 2048 600000 7302250) (hw : hv_LW X bS L xs) {C S : Nat} (hC : C + 2 ≤ 600000) (hS : S + 60 ≤ 7302250) (R18 : Int → hMem → hRs) (hR18 : ∀ (x3 : Int) (mem : hMem), hv_R X 4 (C + 2) (S + 60) (hv_ZX X) (R18 x3 mem) mem [] [(0, .ref bS), (1, .ref (hv_ad X 0)), (2, .ref (hv_ad X 65)), (3, .int (hv_I x3))] [] 18) (x3 : Int) (mem : hMem) : hv_R X 4 C S (hv_ZX X) (K_law_759 xs L R18 x3 mem) mem [] [(0, .ref bS), (1, .ref (hv_ad X 0)), (2, .ref (hv_ad X 65)), (3, .int (hv_I x3))] [] 759 := by
  unfold K_law_759
  refine hv_aload_n hc dL_law_759 rfl (hv_m 1 rfl) ?_
  refine hv_aload_n hc dL_law_760 rfl (hv_m 0 rfl) ?_
  refine hv_iload_n hc dL_law_761 rfl (hv_m 3 rfl) ?_
  refine hv_iconst hc dL_law_762 ?_
  refine hv_iadd hc dL_law_763 ?_
  refine hv_scld hc hw dL_law_764 (fun v1 => ?_)
  refine hv_aload_n hc dL_law_765 rfl (hv_m 0 rfl) ?_
  refine hv_iload_n hc dL_law_766 rfl (hv_m 3 rfl) ?_
  refine hv_iconst hc dL_law_767 ?_
  refine hv_iadd hc dL_law_768 ?_
  refine hv_scld hc hw dL_law_769 (fun v2 => ?_)
  refine hv_callVi hc (c_X10_shared v1 v2 mem) yv_X10_shared tw_949 sh_o_0 rfl rfl rfl rfl (Nat.le_of_ble_eq_true rfl) (Nat.le_of_ble_eq_true rfl) (by omega) (by omega) dL_law_770 (fun r3 m4 => ?_)
  refine hv_aload_n hc dL_law_773 rfl (hv_m 2 rfl) ?_
  refine hv_aload_n hc dL_law_774 rfl (hv_m 0 rfl) ?_
  refine hv_iload_n hc dL_law_775 rfl (hv_m 3 rfl) ?_
  refine hv_iconst hc dL_law_776 ?_
  refine hv_iadd hc dL_law_777 ?_
  refine hv_scld hc hw dL_law_778 (fun v5 => ?_)
  refine hv_aload_n hc dL_law_779 rfl (hv_m 0 rfl) ?_
  refine hv_iload_n hc dL_law_780 rfl (hv_m 3 rfl) ?_
  refine hv_iconst hc dL_law_781 ?_
  refine hv_iadd hc dL_law_782 ?_
  refine hv_scld hc hw dL_law_783 (fun v6 => ?_)
  refine hv_callVi hc (c_X11_shared v5 v6 m4) yv_X11_shared tw_1497 sh_o_65 rfl rfl rfl rfl (Nat.le_of_ble_eq_true rfl) (Nat.le_of_ble_eq_true rfl) (by omega) (by omega) dL_law_784 (fun r7 m8 => ?_)
  refine hv_icmp_eq (tgt := 1355) hc dL_law_787 (by decide) ?_ ?_
  · refine hv_iinc_s (lvf := fun y9 => [(3, .int (hv_I y9)), (0, .ref bS), (1, .ref (hv_ad X 0)), (2, .ref (hv_ad X 65))]) hc dL_law_1355 (by decide) (hv_m 3 rfl) (fun _ => rfl) (fun y9 => ?_)
    refine hv_goto (tgt := 18) hc dL_law_1358 (by decide) ?_
    refine hv_widen (c2 := C + 2) (s2 := S + 60) (by omega) (by omega) ?_
    exact hv_pick [1, 2, 3, 0] rfl (hR18 y9 m8)
  · exact hv_none
def K_law_792 (xs : Nat → Int) (L : Nat) (R18 : Int → hMem → hRs) (x3 : Int) (mem : hMem) : hRs := hv_sc xs L (x3 + 1) (fun v1 => hv_b (f_X10_links v1 mem) (fun r2 m3 => hv_sc xs L (x3 + 1) (fun v4 => hv_b (f_X11_links v4 m3) (fun r5 m6 => hv_eq r2 r5 (hv_set (x3 + 6) (fun y7 => R18 y7 m6)) (none)))))
set_option maxRecDepth 100000 in
theorem gK_law_792 {X : hv_X} {bS L : Nat} {xs : Nat → Int} (hc : hv_C X cL_law 4 RL ret 2048 600000 7302250) (hw : hv_LW X bS L xs) {C S : Nat} (hC : C + 2 ≤ 600000) (hS : S + 60 ≤ 7302250) (R18 : Int → hMem → hRs) (hR18 : ∀ (x3 : Int) (mem : hMem), hv_R X 4 (C + 2) (S + 60) (hv_ZX X) (R18 x3 mem) mem [] [(0, .ref bS), (1, .ref (hv_ad X 0)), (2, .ref (hv_ad X 65)), (3, .int (hv_I x3))] [] 18) (x3 : Int) (mem : hMem) : hv_R X 4 C S (hv_ZX X) (K_law_792 xs L R18 x3 mem) mem [] [(0, .ref bS), (1, .ref (hv_ad X 0)), (2, .ref (hv_ad X 65)), (3, .int (hv_I x3))] [] 792 := by
  unfold K_law_792
  refine hv_aload_n hc dL_law_792 rfl (hv_m 1 rfl) ?_
  refine hv_aload_n hc dL_law_793 rfl (hv_m 0 rfl) ?_
  refine hv_iload_n hc dL_law_794 rfl (hv_m 3 rfl) ?_
  refine hv_iconst hc dL_law_795 ?_
  refine hv_iadd hc dL_law_796 ?_
  refine hv_scld hc hw dL_law_797 (fun v1 => ?_)
  refine hv_callVi hc (c_X10_links v1 mem) yv_X10_links tw_953 sh_o_0 rfl rfl rfl rfl (Nat.le_of_ble_eq_true rfl) (Nat.le_of_ble_eq_true rfl) (by omega) (by omega) dL_law_798 (fun r2 m3 => ?_)
  refine hv_aload_n hc dL_law_801 rfl (hv_m 2 rfl) ?_
  refine hv_aload_n hc dL_law_802 rfl (hv_m 0 rfl) ?_
  refine hv_iload_n hc dL_law_803 rfl (hv_m 3 rfl) ?_
  refine hv_iconst hc dL_law_804 ?_
  refine hv_iadd hc dL_law_805 ?_
  refine hv_scld hc hw dL_law_806 (fun v4 => ?_)
  refine hv_callVi hc (c_X11_links v4 m3) yv_X11_links tw_1501 sh_o_65 rfl rfl rfl rfl (Nat.le_of_ble_eq_true rfl) (Nat.le_of_ble_eq_true rfl) (by omega) (by omega) dL_law_807 (fun r5 m6 => ?_)
  refine hv_icmp_eq (tgt := 1355) hc dL_law_810 (by decide) ?_ ?_
  · refine hv_iinc_s (lvf := fun y7 => [(3, .int (hv_I y7)), (0, .ref bS), (1, .ref (hv_ad X 0)), (2, .ref (hv_ad X 65))]) hc dL_law_1355 (by decide) (hv_m 3 rfl) (fun _ => rfl) (fun y7 => ?_)
    refine hv_goto (tgt := 18) hc dL_law_1358 (by decide) ?_
    refine hv_widen (c2 := C + 2) (s2 := S + 60) (by omega) (by omega) ?_
    exact hv_pick [1, 2, 3, 0] rfl (hR18 y7 m6)
  · exact hv_none
def K_law_815 (xs : Nat → Int) (L : Nat) (R18 : Int → hMem → hRs) (x3 : Int) (mem : hMem) : hRs := hv_b (f_X10_all mem) (fun r1 m2 => hv_b (f_X11_all m2) (fun r3 m4 => hv_eq r1 r3 (hv_set (x3 + 6) (fun y5 => R18 y5 m4)) (none)))
set_option maxRecDepth 100000 in
theorem gK_law_815 {X : hv_X} {bS L : Nat} {xs : Nat → Int} (hc : hv_C X cL_law 4 RL ret 2048 600000 7302250) (hw : hv_LW X bS L xs) {C S : Nat} (hC : C + 2 ≤ 600000) (hS : S + 60 ≤ 7302250) (R18 : Int → hMem → hRs) (hR18 : ∀ (x3 : Int) (mem : hMem), hv_R X 4 (C + 2) (S + 60) (hv_ZX X) (R18 x3 mem) mem [] [(0, .ref bS), (1, .ref (hv_ad X 0)), (2, .ref (hv_ad X 65)), (3, .int (hv_I x3))] [] 18) (x3 : Int) (mem : hMem) : hv_R X 4 C S (hv_ZX X) (K_law_815 xs L R18 x3 mem) mem [] [(0, .ref bS), (1, .ref (hv_ad X 0)), (2, .ref (hv_ad X 65)), (3, .int (hv_I x3))] [] 815 := by
  unfold K_law_815
  refine hv_aload_n hc dL_law_815 rfl (hv_m 1 rfl) ?_
  refine hv_callVi hc (c_X10_all mem) yv_X10_all tw_961 sh_o_0 rfl rfl rfl rfl (Nat.le_of_ble_eq_true rfl) (Nat.le_of_ble_eq_true rfl) (by omega) (by omega) dL_law_816 (fun r1 m2 => ?_)
  refine hv_aload_n hc dL_law_819 rfl (hv_m 2 rfl) ?_
  refine hv_callVi hc (c_X11_all m2) yv_X11_all tw_1509 sh_o_65 rfl rfl rfl rfl (Nat.le_of_ble_eq_true rfl) (Nat.le_of_ble_eq_true rfl) (by omega) (by omega) dL_law_820 (fun r3 m4 => ?_)
  refine hv_icmp_eq (tgt := 1355) hc dL_law_823 (by decide) ?_ ?_
  · refine hv_iinc_s (lvf := fun y5 => [(3, .int (hv_I y5)), (0, .ref bS), (1, .ref (hv_ad X 0)), (2, .ref (hv_ad X 65))]) hc dL_law_1355 (by decide) (hv_m 3 rfl) (fun _ => rfl) (fun y5 => ?_)
    refine hv_goto (tgt := 18) hc dL_law_1358 (by decide) ?_
    refine hv_widen (c2 := C + 2) (s2 := S + 60) (by omega) (by omega) ?_
    exact hv_pick [1, 2, 3, 0] rfl (hR18 y5 m4)
  · exact hv_none
def K_law_828 (xs : Nat → Int) (L : Nat) (R18 : Int → hMem → hRs) (x3 : Int) (mem : hMem) : hRs := hv_sc xs L (x3 + 1) (fun v1 => hv_sc xs L (x3 + 2) (fun v2 => hv_b (f_X10_by v1 v2 mem) (fun r3 m4 => hv_sc xs L (x3 + 1) (fun v5 => hv_sc xs L (x3 + 2) (fun v6 => hv_b (f_X11_by v5 v6 m4) (fun r7 m8 => hv_eq r3 r7 (hv_set (x3 + 6) (fun y9 => R18 y9 m8)) (none)))))))
set_option maxRecDepth 100000 in
theorem gK_law_828 {X : hv_X} {bS L : Nat} {xs : Nat → Int} (hc : hv_C X cL_law 4 RL ret 2048 600000 7302250) (hw : hv_LW X bS L xs) {C S : Nat} (hC : C + 2 ≤ 600000) (hS : S + 60 ≤ 7302250) (R18 : Int → hMem → hRs) (hR18 : ∀ (x3 : Int) (mem : hMem), hv_R X 4 (C + 2) (S + 60) (hv_ZX X) (R18 x3 mem) mem [] [(0, .ref bS), (1, .ref (hv_ad X 0)), (2, .ref (hv_ad X 65)), (3, .int (hv_I x3))] [] 18) (x3 : Int) (mem : hMem) : hv_R X 4 C S (hv_ZX X) (K_law_828 xs L R18 x3 mem) mem [] [(0, .ref bS), (1, .ref (hv_ad X 0)), (2, .ref (hv_ad X 65)), (3, .int (hv_I x3))] [] 828 := by
  unfold K_law_828
  refine hv_aload_n hc dL_law_828 rfl (hv_m 1 rfl) ?_
  refine hv_aload_n hc dL_law_829 rfl (hv_m 0 rfl) ?_
  refine hv_iload_n hc dL_law_830 rfl (hv_m 3 rfl) ?_
  refine hv_iconst hc dL_law_831 ?_
  refine hv_iadd hc dL_law_832 ?_
  refine hv_scld hc hw dL_law_833 (fun v1 => ?_)
  refine hv_aload_n hc dL_law_834 rfl (hv_m 0 rfl) ?_
  refine hv_iload_n hc dL_law_835 rfl (hv_m 3 rfl) ?_
  refine hv_iconst hc dL_law_836 ?_
  refine hv_iadd hc dL_law_837 ?_
  refine hv_scld hc hw dL_law_838 (fun v2 => ?_)
  refine hv_callVi hc (c_X10_by v1 v2 mem) yv_X10_by tw_970 sh_o_0 rfl rfl rfl rfl (Nat.le_of_ble_eq_true rfl) (Nat.le_of_ble_eq_true rfl) (by omega) (by omega) dL_law_839 (fun r3 m4 => ?_)
  refine hv_aload_n hc dL_law_842 rfl (hv_m 2 rfl) ?_
  refine hv_aload_n hc dL_law_843 rfl (hv_m 0 rfl) ?_
  refine hv_iload_n hc dL_law_844 rfl (hv_m 3 rfl) ?_
  refine hv_iconst hc dL_law_845 ?_
  refine hv_iadd hc dL_law_846 ?_
  refine hv_scld hc hw dL_law_847 (fun v5 => ?_)
  refine hv_aload_n hc dL_law_848 rfl (hv_m 0 rfl) ?_
  refine hv_iload_n hc dL_law_849 rfl (hv_m 3 rfl) ?_
  refine hv_iconst hc dL_law_850 ?_
  refine hv_iadd hc dL_law_851 ?_
  refine hv_scld hc hw dL_law_852 (fun v6 => ?_)
  refine hv_callVi hc (c_X11_by v5 v6 m4) yv_X11_by tw_1517 sh_o_65 rfl rfl rfl rfl (Nat.le_of_ble_eq_true rfl) (Nat.le_of_ble_eq_true rfl) (by omega) (by omega) dL_law_853 (fun r7 m8 => ?_)
  refine hv_icmp_eq (tgt := 1355) hc dL_law_856 (by decide) ?_ ?_
  · refine hv_iinc_s (lvf := fun y9 => [(3, .int (hv_I y9)), (0, .ref bS), (1, .ref (hv_ad X 0)), (2, .ref (hv_ad X 65))]) hc dL_law_1355 (by decide) (hv_m 3 rfl) (fun _ => rfl) (fun y9 => ?_)
    refine hv_goto (tgt := 18) hc dL_law_1358 (by decide) ?_
    refine hv_widen (c2 := C + 2) (s2 := S + 60) (by omega) (by omega) ?_
    exact hv_pick [1, 2, 3, 0] rfl (hR18 y9 m8)
  · exact hv_none
def K_law_861 (xs : Nat → Int) (L : Nat) (R18 : Int → hMem → hRs) (x3 : Int) (mem : hMem) : hRs := hv_b (f_X10_lean mem) (fun r1 m2 => hv_b (f_X11_lean m2) (fun r3 m4 => hv_eq r1 r3 (hv_set (x3 + 6) (fun y5 => R18 y5 m4)) (none)))
set_option maxRecDepth 100000 in
theorem gK_law_861 {X : hv_X} {bS L : Nat} {xs : Nat → Int} (hc : hv_C X cL_law 4 RL ret 2048 600000 7302250) (hw : hv_LW X bS L xs) {C S : Nat} (hC : C + 2 ≤ 600000) (hS : S + 60 ≤ 7302250) (R18 : Int → hMem → hRs) (hR18 : ∀ (x3 : Int) (mem : hMem), hv_R X 4 (C + 2) (S + 60) (hv_ZX X) (R18 x3 mem) mem [] [(0, .ref bS), (1, .ref (hv_ad X 0)), (2, .ref (hv_ad X 65)), (3, .int (hv_I x3))] [] 18) (x3 : Int) (mem : hMem) : hv_R X 4 C S (hv_ZX X) (K_law_861 xs L R18 x3 mem) mem [] [(0, .ref bS), (1, .ref (hv_ad X 0)), (2, .ref (hv_ad X 65)), (3, .int (hv_I x3))] [] 861 := by
  unfold K_law_861
  refine hv_aload_n hc dL_law_861 rfl (hv_m 1 rfl) ?_
  refine hv_callVi hc (c_X10_lean mem) yv_X10_lean tw_974 sh_o_0 rfl rfl rfl rfl (Nat.le_of_ble_eq_true rfl) (Nat.le_of_ble_eq_true rfl) (by omega) (by omega) dL_law_862 (fun r1 m2 => ?_)
  refine hv_aload_n hc dL_law_865 rfl (hv_m 2 rfl) ?_
  refine hv_callVi hc (c_X11_lean m2) yv_X11_lean tw_1518 sh_o_65 rfl rfl rfl rfl (Nat.le_of_ble_eq_true rfl) (Nat.le_of_ble_eq_true rfl) (by omega) (by omega) dL_law_866 (fun r3 m4 => ?_)
  refine hv_icmp_eq (tgt := 1355) hc dL_law_869 (by decide) ?_ ?_
  · refine hv_iinc_s (lvf := fun y5 => [(3, .int (hv_I y5)), (0, .ref bS), (1, .ref (hv_ad X 0)), (2, .ref (hv_ad X 65))]) hc dL_law_1355 (by decide) (hv_m 3 rfl) (fun _ => rfl) (fun y5 => ?_)
    refine hv_goto (tgt := 18) hc dL_law_1358 (by decide) ?_
    refine hv_widen (c2 := C + 2) (s2 := S + 60) (by omega) (by omega) ?_
    exact hv_pick [1, 2, 3, 0] rfl (hR18 y5 m4)
  · exact hv_none
def K_law_874 (xs : Nat → Int) (L : Nat) (R18 : Int → hMem → hRs) (x3 : Int) (mem : hMem) : hRs := hv_sc xs L (x3 + 1) (fun v1 => hv_b (f_X10_drain v1 mem) (fun r2 m3 => hv_sc xs L (x3 + 1) (fun v4 => hv_b (f_X11_drain v4 m3) (fun r5 m6 => hv_eq r2 r5 (hv_set (x3 + 6) (fun y7 => R18 y7 m6)) (none)))))
set_option maxRecDepth 100000 in
theorem gK_law_874 {X : hv_X} {bS L : Nat} {xs : Nat → Int} (hc : hv_C X cL_law 4 RL ret 2048 600000 7302250) (hw : hv_LW X bS L xs) {C S : Nat} (hC : C + 2 ≤ 600000) (hS : S + 60 ≤ 7302250) (R18 : Int → hMem → hRs) (hR18 : ∀ (x3 : Int) (mem : hMem), hv_R X 4 (C + 2) (S + 60) (hv_ZX X) (R18 x3 mem) mem [] [(0, .ref bS), (1, .ref (hv_ad X 0)), (2, .ref (hv_ad X 65)), (3, .int (hv_I x3))] [] 18) (x3 : Int) (mem : hMem) : hv_R X 4 C S (hv_ZX X) (K_law_874 xs L R18 x3 mem) mem [] [(0, .ref bS), (1, .ref (hv_ad X 0)), (2, .ref (hv_ad X 65)), (3, .int (hv_I x3))] [] 874 := by
  unfold K_law_874
  refine hv_aload_n hc dL_law_874 rfl (hv_m 1 rfl) ?_
  refine hv_aload_n hc dL_law_875 rfl (hv_m 0 rfl) ?_
  refine hv_iload_n hc dL_law_876 rfl (hv_m 3 rfl) ?_
  refine hv_iconst hc dL_law_877 ?_
  refine hv_iadd hc dL_law_878 ?_
  refine hv_scld hc hw dL_law_879 (fun v1 => ?_)
  refine hv_callVi hc (c_X10_drain v1 mem) yv_X10_drain tw_978 sh_o_0 rfl rfl rfl rfl (Nat.le_of_ble_eq_true rfl) (Nat.le_of_ble_eq_true rfl) (by omega) (by omega) dL_law_880 (fun r2 m3 => ?_)
  refine hv_aload_n hc dL_law_883 rfl (hv_m 2 rfl) ?_
  refine hv_aload_n hc dL_law_884 rfl (hv_m 0 rfl) ?_
  refine hv_iload_n hc dL_law_885 rfl (hv_m 3 rfl) ?_
  refine hv_iconst hc dL_law_886 ?_
  refine hv_iadd hc dL_law_887 ?_
  refine hv_scld hc hw dL_law_888 (fun v4 => ?_)
  refine hv_callVi hc (c_X11_drain v4 m3) yv_X11_drain tw_1522 sh_o_65 rfl rfl rfl rfl (Nat.le_of_ble_eq_true rfl) (Nat.le_of_ble_eq_true rfl) (by omega) (by omega) dL_law_889 (fun r5 m6 => ?_)
  refine hv_icmp_eq (tgt := 1355) hc dL_law_892 (by decide) ?_ ?_
  · refine hv_iinc_s (lvf := fun y7 => [(3, .int (hv_I y7)), (0, .ref bS), (1, .ref (hv_ad X 0)), (2, .ref (hv_ad X 65))]) hc dL_law_1355 (by decide) (hv_m 3 rfl) (fun _ => rfl) (fun y7 => ?_)
    refine hv_goto (tgt := 18) hc dL_law_1358 (by decide) ?_
    refine hv_widen (c2 := C + 2) (s2 := S + 60) (by omega) (by omega) ?_
    exact hv_pick [1, 2, 3, 0] rfl (hR18 y7 m6)
  · exact hv_none
def K_law_897 (xs : Nat → Int) (L : Nat) (R18 : Int → hMem → hRs) (x3 : Int) (mem : hMem) : hRs := hv_sc xs L (x3 + 1) (fun v1 => hv_b (f_X10_dearest v1 mem) (fun r2 m3 => hv_sc xs L (x3 + 1) (fun v4 => hv_b (f_X11_dearest v4 m3) (fun r5 m6 => hv_eq r2 r5 (hv_set (x3 + 6) (fun y7 => R18 y7 m6)) (none)))))
set_option maxRecDepth 100000 in
theorem gK_law_897 {X : hv_X} {bS L : Nat} {xs : Nat → Int} (hc : hv_C X cL_law 4 RL ret 2048 600000 7302250) (hw : hv_LW X bS L xs) {C S : Nat} (hC : C + 2 ≤ 600000) (hS : S + 60 ≤ 7302250) (R18 : Int → hMem → hRs) (hR18 : ∀ (x3 : Int) (mem : hMem), hv_R X 4 (C + 2) (S + 60) (hv_ZX X) (R18 x3 mem) mem [] [(0, .ref bS), (1, .ref (hv_ad X 0)), (2, .ref (hv_ad X 65)), (3, .int (hv_I x3))] [] 18) (x3 : Int) (mem : hMem) : hv_R X 4 C S (hv_ZX X) (K_law_897 xs L R18 x3 mem) mem [] [(0, .ref bS), (1, .ref (hv_ad X 0)), (2, .ref (hv_ad X 65)), (3, .int (hv_I x3))] [] 897 := by
  unfold K_law_897
  refine hv_aload_n hc dL_law_897 rfl (hv_m 1 rfl) ?_
  refine hv_aload_n hc dL_law_898 rfl (hv_m 0 rfl) ?_
  refine hv_iload_n hc dL_law_899 rfl (hv_m 3 rfl) ?_
  refine hv_iconst hc dL_law_900 ?_
  refine hv_iadd hc dL_law_901 ?_
  refine hv_scld hc hw dL_law_902 (fun v1 => ?_)
  refine hv_callVi hc (c_X10_dearest v1 mem) yv_X10_dearest tw_986 sh_o_0 rfl rfl rfl rfl (Nat.le_of_ble_eq_true rfl) (Nat.le_of_ble_eq_true rfl) (by omega) (by omega) dL_law_903 (fun r2 m3 => ?_)
  refine hv_aload_n hc dL_law_906 rfl (hv_m 2 rfl) ?_
  refine hv_aload_n hc dL_law_907 rfl (hv_m 0 rfl) ?_
  refine hv_iload_n hc dL_law_908 rfl (hv_m 3 rfl) ?_
  refine hv_iconst hc dL_law_909 ?_
  refine hv_iadd hc dL_law_910 ?_
  refine hv_scld hc hw dL_law_911 (fun v4 => ?_)
  refine hv_callVi hc (c_X11_dearest v4 m3) yv_X11_dearest tw_1530 sh_o_65 rfl rfl rfl rfl (Nat.le_of_ble_eq_true rfl) (Nat.le_of_ble_eq_true rfl) (by omega) (by omega) dL_law_912 (fun r5 m6 => ?_)
  refine hv_icmp_eq (tgt := 1355) hc dL_law_915 (by decide) ?_ ?_
  · refine hv_iinc_s (lvf := fun y7 => [(3, .int (hv_I y7)), (0, .ref bS), (1, .ref (hv_ad X 0)), (2, .ref (hv_ad X 65))]) hc dL_law_1355 (by decide) (hv_m 3 rfl) (fun _ => rfl) (fun y7 => ?_)
    refine hv_goto (tgt := 18) hc dL_law_1358 (by decide) ?_
    refine hv_widen (c2 := C + 2) (s2 := S + 60) (by omega) (by omega) ?_
    exact hv_pick [1, 2, 3, 0] rfl (hR18 y7 m6)
  · exact hv_none
def K_law_920 (xs : Nat → Int) (L : Nat) (R18 : Int → hMem → hRs) (x3 : Int) (mem : hMem) : hRs := hv_sc xs L (x3 + 1) (fun v1 => hv_sc xs L (x3 + 2) (fun v2 => hv_b (f_X10_same v1 v2 mem) (fun r3 m4 => hv_sc xs L (x3 + 1) (fun v5 => hv_sc xs L (x3 + 2) (fun v6 => hv_b (f_X11_same v5 v6 m4) (fun r7 m8 => hv_eq r3 r7 (hv_set (x3 + 6) (fun y9 => R18 y9 m8)) (none)))))))
set_option maxRecDepth 100000 in
theorem gK_law_920 {X : hv_X} {bS L : Nat} {xs : Nat → Int} (hc : hv_C X cL_law 4 RL ret 2048 600000 7302250) (hw : hv_LW X bS L xs) {C S : Nat} (hC : C + 2 ≤ 600000) (hS : S + 60 ≤ 7302250) (R18 : Int → hMem → hRs) (hR18 : ∀ (x3 : Int) (mem : hMem), hv_R X 4 (C + 2) (S + 60) (hv_ZX X) (R18 x3 mem) mem [] [(0, .ref bS), (1, .ref (hv_ad X 0)), (2, .ref (hv_ad X 65)), (3, .int (hv_I x3))] [] 18) (x3 : Int) (mem : hMem) : hv_R X 4 C S (hv_ZX X) (K_law_920 xs L R18 x3 mem) mem [] [(0, .ref bS), (1, .ref (hv_ad X 0)), (2, .ref (hv_ad X 65)), (3, .int (hv_I x3))] [] 920 := by
  unfold K_law_920
  refine hv_aload_n hc dL_law_920 rfl (hv_m 1 rfl) ?_
  refine hv_aload_n hc dL_law_921 rfl (hv_m 0 rfl) ?_
  refine hv_iload_n hc dL_law_922 rfl (hv_m 3 rfl) ?_
  refine hv_iconst hc dL_law_923 ?_
  refine hv_iadd hc dL_law_924 ?_
  refine hv_scld hc hw dL_law_925 (fun v1 => ?_)
  refine hv_aload_n hc dL_law_926 rfl (hv_m 0 rfl) ?_
  refine hv_iload_n hc dL_law_927 rfl (hv_m 3 rfl) ?_
  refine hv_iconst hc dL_law_928 ?_
  refine hv_iadd hc dL_law_929 ?_
  refine hv_scld hc hw dL_law_930 (fun v2 => ?_)
  refine hv_callVi hc (c_X10_same v1 v2 mem) yv_X10_same tw_995 sh_o_0 rfl rfl rfl rfl (Nat.le_of_ble_eq_true rfl) (Nat.le_of_ble_eq_true rfl) (by omega) (by omega) dL_law_931 (fun r3 m4 => ?_)
  refine hv_aload_n hc dL_law_934 rfl (hv_m 2 rfl) ?_
  refine hv_aload_n hc dL_law_935 rfl (hv_m 0 rfl) ?_
  refine hv_iload_n hc dL_law_936 rfl (hv_m 3 rfl) ?_
  refine hv_iconst hc dL_law_937 ?_
  refine hv_iadd hc dL_law_938 ?_
  refine hv_scld hc hw dL_law_939 (fun v5 => ?_)
  refine hv_aload_n hc dL_law_940 rfl (hv_m 0 rfl) ?_
  refine hv_iload_n hc dL_law_941 rfl (hv_m 3 rfl) ?_
  refine hv_iconst hc dL_law_942 ?_
  refine hv_iadd hc dL_law_943 ?_
  refine hv_scld hc hw dL_law_944 (fun v6 => ?_)
  refine hv_callVi2 (mc := 2) (ms := 60) hc (c_X11_same v5 v6 m4) yv_X11_same tw_1534 sh_o_65 rfl rfl rfl rfl (Nat.le_of_ble_eq_true rfl) (Nat.le_of_ble_eq_true rfl) (by omega) (by omega) dL_law_945 (fun r7 m8 => ?_)
  refine hv_icmp_eq (tgt := 1355) hc dL_law_948 (by decide) ?_ ?_
  · refine hv_iinc_s (lvf := fun y9 => [(3, .int (hv_I y9)), (0, .ref bS), (1, .ref (hv_ad X 0)), (2, .ref (hv_ad X 65))]) hc dL_law_1355 (by decide) (hv_m 3 rfl) (fun _ => rfl) (fun y9 => ?_)
    refine hv_goto (tgt := 18) hc dL_law_1358 (by decide) ?_
    refine hv_widen (c2 := C + 2) (s2 := S + 60) (by omega) (by omega) ?_
    exact hv_pick [1, 2, 3, 0] rfl (hR18 y9 m8)
  · exact hv_none
def K_law_953 (xs : Nat → Int) (L : Nat) (R18 : Int → hMem → hRs) (x3 : Int) (mem : hMem) : hRs := hv_sc xs L (x3 + 1) (fun v1 => hv_sc xs L (x3 + 2) (fun v2 => hv_b (f_X10_more v1 v2 mem) (fun r3 m4 => hv_sc xs L (x3 + 1) (fun v5 => hv_sc xs L (x3 + 2) (fun v6 => hv_b (f_X11_more v5 v6 m4) (fun r7 m8 => hv_eq r3 r7 (hv_set (x3 + 6) (fun y9 => R18 y9 m8)) (none)))))))
set_option maxRecDepth 100000 in
theorem gK_law_953 {X : hv_X} {bS L : Nat} {xs : Nat → Int} (hc : hv_C X cL_law 4 RL ret 2048 600000 7302250) (hw : hv_LW X bS L xs) {C S : Nat} (hC : C + 2 ≤ 600000) (hS : S + 60 ≤ 7302250) (R18 : Int → hMem → hRs) (hR18 : ∀ (x3 : Int) (mem : hMem), hv_R X 4 (C + 2) (S + 60) (hv_ZX X) (R18 x3 mem) mem [] [(0, .ref bS), (1, .ref (hv_ad X 0)), (2, .ref (hv_ad X 65)), (3, .int (hv_I x3))] [] 18) (x3 : Int) (mem : hMem) : hv_R X 4 C S (hv_ZX X) (K_law_953 xs L R18 x3 mem) mem [] [(0, .ref bS), (1, .ref (hv_ad X 0)), (2, .ref (hv_ad X 65)), (3, .int (hv_I x3))] [] 953 := by
  unfold K_law_953
  refine hv_aload_n hc dL_law_953 rfl (hv_m 1 rfl) ?_
  refine hv_aload_n hc dL_law_954 rfl (hv_m 0 rfl) ?_
  refine hv_iload_n hc dL_law_955 rfl (hv_m 3 rfl) ?_
  refine hv_iconst hc dL_law_956 ?_
  refine hv_iadd hc dL_law_957 ?_
  refine hv_scld hc hw dL_law_958 (fun v1 => ?_)
  refine hv_aload_n hc dL_law_959 rfl (hv_m 0 rfl) ?_
  refine hv_iload_n hc dL_law_960 rfl (hv_m 3 rfl) ?_
  refine hv_iconst hc dL_law_961 ?_
  refine hv_iadd hc dL_law_962 ?_
  refine hv_scld hc hw dL_law_963 (fun v2 => ?_)
  refine hv_callVi hc (c_X10_more v1 v2 mem) yv_X10_more tw_1003 sh_o_0 rfl rfl rfl rfl (Nat.le_of_ble_eq_true rfl) (Nat.le_of_ble_eq_true rfl) (by omega) (by omega) dL_law_964 (fun r3 m4 => ?_)
  refine hv_aload_n hc dL_law_967 rfl (hv_m 2 rfl) ?_
  refine hv_aload_n hc dL_law_968 rfl (hv_m 0 rfl) ?_
  refine hv_iload_n hc dL_law_969 rfl (hv_m 3 rfl) ?_
  refine hv_iconst hc dL_law_970 ?_
  refine hv_iadd hc dL_law_971 ?_
  refine hv_scld hc hw dL_law_972 (fun v5 => ?_)
  refine hv_aload_n hc dL_law_973 rfl (hv_m 0 rfl) ?_
  refine hv_iload_n hc dL_law_974 rfl (hv_m 3 rfl) ?_
  refine hv_iconst hc dL_law_975 ?_
  refine hv_iadd hc dL_law_976 ?_
  refine hv_scld hc hw dL_law_977 (fun v6 => ?_)
  refine hv_callVi2 (mc := 1) (ms := 30) hc (c_X11_more v5 v6 m4) yv_X11_more tw_1542 sh_o_65 rfl rfl rfl rfl (Nat.le_of_ble_eq_true rfl) (Nat.le_of_ble_eq_true rfl) (by omega) (by omega) dL_law_978 (fun r7 m8 => ?_)
  refine hv_icmp_eq (tgt := 1355) hc dL_law_981 (by decide) ?_ ?_
  · refine hv_iinc_s (lvf := fun y9 => [(3, .int (hv_I y9)), (0, .ref bS), (1, .ref (hv_ad X 0)), (2, .ref (hv_ad X 65))]) hc dL_law_1355 (by decide) (hv_m 3 rfl) (fun _ => rfl) (fun y9 => ?_)
    refine hv_goto (tgt := 18) hc dL_law_1358 (by decide) ?_
    refine hv_widen (c2 := C + 2) (s2 := S + 60) (by omega) (by omega) ?_
    exact hv_pick [1, 2, 3, 0] rfl (hR18 y9 m8)
  · exact hv_none
def K_law_986 (xs : Nat → Int) (L : Nat) (R18 : Int → hMem → hRs) (x3 : Int) (mem : hMem) : hRs := hv_sc xs L (x3 + 1) (fun v1 => hv_sc xs L (x3 + 2) (fun v2 => hv_b (f_X10_from v1 v2 mem) (fun r3 m4 => hv_sc xs L (x3 + 1) (fun v5 => hv_sc xs L (x3 + 2) (fun v6 => hv_b (f_X11_from v5 v6 m4) (fun r7 m8 => hv_eq r3 r7 (hv_set (x3 + 6) (fun y9 => R18 y9 m8)) (none)))))))
set_option maxRecDepth 100000 in
theorem gK_law_986 {X : hv_X} {bS L : Nat} {xs : Nat → Int} (hc : hv_C X cL_law 4 RL ret 2048 600000 7302250) (hw : hv_LW X bS L xs) {C S : Nat} (hC : C + 2 ≤ 600000) (hS : S + 60 ≤ 7302250) (R18 : Int → hMem → hRs) (hR18 : ∀ (x3 : Int) (mem : hMem), hv_R X 4 (C + 2) (S + 60) (hv_ZX X) (R18 x3 mem) mem [] [(0, .ref bS), (1, .ref (hv_ad X 0)), (2, .ref (hv_ad X 65)), (3, .int (hv_I x3))] [] 18) (x3 : Int) (mem : hMem) : hv_R X 4 C S (hv_ZX X) (K_law_986 xs L R18 x3 mem) mem [] [(0, .ref bS), (1, .ref (hv_ad X 0)), (2, .ref (hv_ad X 65)), (3, .int (hv_I x3))] [] 986 := by
  unfold K_law_986
  refine hv_aload_n hc dL_law_986 rfl (hv_m 1 rfl) ?_
  refine hv_aload_n hc dL_law_987 rfl (hv_m 0 rfl) ?_
  refine hv_iload_n hc dL_law_988 rfl (hv_m 3 rfl) ?_
  refine hv_iconst hc dL_law_989 ?_
  refine hv_iadd hc dL_law_990 ?_
  refine hv_scld hc hw dL_law_991 (fun v1 => ?_)
  refine hv_aload_n hc dL_law_992 rfl (hv_m 0 rfl) ?_
  refine hv_iload_n hc dL_law_993 rfl (hv_m 3 rfl) ?_
  refine hv_iconst hc dL_law_994 ?_
  refine hv_iadd hc dL_law_995 ?_
  refine hv_scld hc hw dL_law_996 (fun v2 => ?_)
  refine hv_callVi hc (c_X10_from v1 v2 mem) yv_X10_from tw_1007 sh_o_0 rfl rfl rfl rfl (Nat.le_of_ble_eq_true rfl) (Nat.le_of_ble_eq_true rfl) (by omega) (by omega) dL_law_997 (fun r3 m4 => ?_)
  refine hv_aload_n hc dL_law_1000 rfl (hv_m 2 rfl) ?_
  refine hv_aload_n hc dL_law_1001 rfl (hv_m 0 rfl) ?_
  refine hv_iload_n hc dL_law_1002 rfl (hv_m 3 rfl) ?_
  refine hv_iconst hc dL_law_1003 ?_
  refine hv_iadd hc dL_law_1004 ?_
  refine hv_scld hc hw dL_law_1005 (fun v5 => ?_)
  refine hv_aload_n hc dL_law_1006 rfl (hv_m 0 rfl) ?_
  refine hv_iload_n hc dL_law_1007 rfl (hv_m 3 rfl) ?_
  refine hv_iconst hc dL_law_1008 ?_
  refine hv_iadd hc dL_law_1009 ?_
  refine hv_scld hc hw dL_law_1010 (fun v6 => ?_)
  refine hv_callVi hc (c_X11_from v5 v6 m4) yv_X11_from tw_1546 sh_o_65 rfl rfl rfl rfl (Nat.le_of_ble_eq_true rfl) (Nat.le_of_ble_eq_true rfl) (by omega) (by omega) dL_law_1011 (fun r7 m8 => ?_)
  refine hv_icmp_eq (tgt := 1355) hc dL_law_1014 (by decide) ?_ ?_
  · refine hv_iinc_s (lvf := fun y9 => [(3, .int (hv_I y9)), (0, .ref bS), (1, .ref (hv_ad X 0)), (2, .ref (hv_ad X 65))]) hc dL_law_1355 (by decide) (hv_m 3 rfl) (fun _ => rfl) (fun y9 => ?_)
    refine hv_goto (tgt := 18) hc dL_law_1358 (by decide) ?_
    refine hv_widen (c2 := C + 2) (s2 := S + 60) (by omega) (by omega) ?_
    exact hv_pick [1, 2, 3, 0] rfl (hR18 y9 m8)
  · exact hv_none
def K_law_1019 (xs : Nat → Int) (L : Nat) (R18 : Int → hMem → hRs) (x3 : Int) (mem : hMem) : hRs := hv_sc xs L (x3 + 1) (fun v1 => hv_b (f_X10_roots v1 mem) (fun r2 m3 => hv_sc xs L (x3 + 1) (fun v4 => hv_b (f_X11_roots v4 m3) (fun r5 m6 => hv_eq r2 r5 (hv_set (x3 + 6) (fun y7 => R18 y7 m6)) (none)))))
set_option maxRecDepth 100000 in
theorem gK_law_1019 {X : hv_X} {bS L : Nat} {xs : Nat → Int} (hc : hv_C X cL_law 4 RL ret 2048 600000 7302250) (hw : hv_LW X bS L xs) {C S : Nat} (hC : C + 2 ≤ 600000) (hS : S + 60 ≤ 7302250) (R18 : Int → hMem → hRs) (hR18 : ∀ (x3 : Int) (mem : hMem), hv_R X 4 (C + 2) (S + 60) (hv_ZX X) (R18 x3 mem) mem [] [(0, .ref bS), (1, .ref (hv_ad X 0)), (2, .ref (hv_ad X 65)), (3, .int (hv_I x3))] [] 18) (x3 : Int) (mem : hMem) : hv_R X 4 C S (hv_ZX X) (K_law_1019 xs L R18 x3 mem) mem [] [(0, .ref bS), (1, .ref (hv_ad X 0)), (2, .ref (hv_ad X 65)), (3, .int (hv_I x3))] [] 1019 := by
  unfold K_law_1019
  refine hv_aload_n hc dL_law_1019 rfl (hv_m 1 rfl) ?_
  refine hv_aload_n hc dL_law_1020 rfl (hv_m 0 rfl) ?_
  refine hv_iload_n hc dL_law_1021 rfl (hv_m 3 rfl) ?_
  refine hv_iconst hc dL_law_1022 ?_
  refine hv_iadd hc dL_law_1023 ?_
  refine hv_scld hc hw dL_law_1024 (fun v1 => ?_)
  refine hv_callVi hc (c_X10_roots v1 mem) yv_X10_roots tw_1015 sh_o_0 rfl rfl rfl rfl (Nat.le_of_ble_eq_true rfl) (Nat.le_of_ble_eq_true rfl) (by omega) (by omega) dL_law_1025 (fun r2 m3 => ?_)
  refine hv_aload_n hc dL_law_1028 rfl (hv_m 2 rfl) ?_
  refine hv_aload_n hc dL_law_1029 rfl (hv_m 0 rfl) ?_
  refine hv_iload_n hc dL_law_1030 rfl (hv_m 3 rfl) ?_
  refine hv_iconst hc dL_law_1031 ?_
  refine hv_iadd hc dL_law_1032 ?_
  refine hv_scld hc hw dL_law_1033 (fun v4 => ?_)
  refine hv_callVi hc (c_X11_roots v4 m3) yv_X11_roots tw_1558 sh_o_65 rfl rfl rfl rfl (Nat.le_of_ble_eq_true rfl) (Nat.le_of_ble_eq_true rfl) (by omega) (by omega) dL_law_1034 (fun r5 m6 => ?_)
  refine hv_icmp_eq (tgt := 1355) hc dL_law_1037 (by decide) ?_ ?_
  · refine hv_iinc_s (lvf := fun y7 => [(3, .int (hv_I y7)), (0, .ref bS), (1, .ref (hv_ad X 0)), (2, .ref (hv_ad X 65))]) hc dL_law_1355 (by decide) (hv_m 3 rfl) (fun _ => rfl) (fun y7 => ?_)
    refine hv_goto (tgt := 18) hc dL_law_1358 (by decide) ?_
    refine hv_widen (c2 := C + 2) (s2 := S + 60) (by omega) (by omega) ?_
    exact hv_pick [1, 2, 3, 0] rfl (hR18 y7 m6)
  · exact hv_none
def K_law_1042 (xs : Nat → Int) (L : Nat) (R18 : Int → hMem → hRs) (x3 : Int) (mem : hMem) : hRs := hv_sc xs L (x3 + 1) (fun v1 => hv_sc xs L (x3 + 2) (fun v2 => hv_b (f_X10_without v1 v2 mem) (fun r3 m4 => hv_sc xs L (x3 + 1) (fun v5 => hv_sc xs L (x3 + 2) (fun v6 => hv_b (f_X11_without v5 v6 m4) (fun r7 m8 => hv_eq r3 r7 (hv_set (x3 + 6) (fun y9 => R18 y9 m8)) (none)))))))
set_option maxRecDepth 100000 in
theorem gK_law_1042 {X : hv_X} {bS L : Nat} {xs : Nat → Int} (hc : hv_C X cL_law 4 RL ret 2048 600000 7302250) (hw : hv_LW X bS L xs) {C S : Nat} (hC : C + 2 ≤ 600000) (hS : S + 60 ≤ 7302250) (R18 : Int → hMem → hRs) (hR18 : ∀ (x3 : Int) (mem : hMem), hv_R X 4 (C + 2) (S + 60) (hv_ZX X) (R18 x3 mem) mem [] [(0, .ref bS), (1, .ref (hv_ad X 0)), (2, .ref (hv_ad X 65)), (3, .int (hv_I x3))] [] 18) (x3 : Int) (mem : hMem) : hv_R X 4 C S (hv_ZX X) (K_law_1042 xs L R18 x3 mem) mem [] [(0, .ref bS), (1, .ref (hv_ad X 0)), (2, .ref (hv_ad X 65)), (3, .int (hv_I x3))] [] 1042 := by
  unfold K_law_1042
  refine hv_aload_n hc dL_law_1042 rfl (hv_m 1 rfl) ?_
  refine hv_aload_n hc dL_law_1043 rfl (hv_m 0 rfl) ?_
  refine hv_iload_n hc dL_law_1044 rfl (hv_m 3 rfl) ?_
  refine hv_iconst hc dL_law_1045 ?_
  refine hv_iadd hc dL_law_1046 ?_
  refine hv_scld hc hw dL_law_1047 (fun v1 => ?_)
  refine hv_aload_n hc dL_law_1048 rfl (hv_m 0 rfl) ?_
  refine hv_iload_n hc dL_law_1049 rfl (hv_m 3 rfl) ?_
  refine hv_iconst hc dL_law_1050 ?_
  refine hv_iadd hc dL_law_1051 ?_
  refine hv_scld hc hw dL_law_1052 (fun v2 => ?_)
  refine hv_callVi hc (c_X10_without v1 v2 mem) yv_X10_without tw_1029 sh_o_0 rfl rfl rfl rfl (Nat.le_of_ble_eq_true rfl) (Nat.le_of_ble_eq_true rfl) (by omega) (by omega) dL_law_1053 (fun r3 m4 => ?_)
  refine hv_aload_n hc dL_law_1056 rfl (hv_m 2 rfl) ?_
  refine hv_aload_n hc dL_law_1057 rfl (hv_m 0 rfl) ?_
  refine hv_iload_n hc dL_law_1058 rfl (hv_m 3 rfl) ?_
  refine hv_iconst hc dL_law_1059 ?_
  refine hv_iadd hc dL_law_1060 ?_
  refine hv_scld hc hw dL_law_1061 (fun v5 => ?_)
  refine hv_aload_n hc dL_law_1062 rfl (hv_m 0 rfl) ?_
  refine hv_iload_n hc dL_law_1063 rfl (hv_m 3 rfl) ?_
  refine hv_iconst hc dL_law_1064 ?_
  refine hv_iadd hc dL_law_1065 ?_
  refine hv_scld hc hw dL_law_1066 (fun v6 => ?_)
  refine hv_callVi hc (c_X11_without v5 v6 m4) yv_X11_without tw_1562 sh_o_65 rfl rfl rfl rfl (Nat.le_of_ble_eq_true rfl) (Nat.le_of_ble_eq_true rfl) (by omega) (by omega) dL_law_1067 (fun r7 m8 => ?_)
  refine hv_icmp_eq (tgt := 1355) hc dL_law_1070 (by decide) ?_ ?_
  · refine hv_iinc_s (lvf := fun y9 => [(3, .int (hv_I y9)), (0, .ref bS), (1, .ref (hv_ad X 0)), (2, .ref (hv_ad X 65))]) hc dL_law_1355 (by decide) (hv_m 3 rfl) (fun _ => rfl) (fun y9 => ?_)
    refine hv_goto (tgt := 18) hc dL_law_1358 (by decide) ?_
    refine hv_widen (c2 := C + 2) (s2 := S + 60) (by omega) (by omega) ?_
    exact hv_pick [1, 2, 3, 0] rfl (hR18 y9 m8)
  · exact hv_none
def K_law_1075 (xs : Nat → Int) (L : Nat) (R18 : Int → hMem → hRs) (x3 : Int) (mem : hMem) : hRs := hv_sc xs L (x3 + 1) (fun v1 => hv_sc xs L (x3 + 2) (fun v2 => hv_b (f_X10_left v1 v2 mem) (fun r3 m4 => hv_sc xs L (x3 + 1) (fun v5 => hv_sc xs L (x3 + 2) (fun v6 => hv_b (f_X11_left v5 v6 m4) (fun r7 m8 => hv_eq r3 r7 (hv_set (x3 + 6) (fun y9 => R18 y9 m8)) (none)))))))
set_option maxRecDepth 100000 in
theorem gK_law_1075 {X : hv_X} {bS L : Nat} {xs : Nat → Int} (hc : hv_C X cL_law 4 RL ret 2048 600000 7302250) (hw : hv_LW X bS L xs) {C S : Nat} (hC : C + 2 ≤ 600000) (hS : S + 60 ≤ 7302250) (R18 : Int → hMem → hRs) (hR18 : ∀ (x3 : Int) (mem : hMem), hv_R X 4 (C + 2) (S + 60) (hv_ZX X) (R18 x3 mem) mem [] [(0, .ref bS), (1, .ref (hv_ad X 0)), (2, .ref (hv_ad X 65)), (3, .int (hv_I x3))] [] 18) (x3 : Int) (mem : hMem) : hv_R X 4 C S (hv_ZX X) (K_law_1075 xs L R18 x3 mem) mem [] [(0, .ref bS), (1, .ref (hv_ad X 0)), (2, .ref (hv_ad X 65)), (3, .int (hv_I x3))] [] 1075 := by
  unfold K_law_1075
  refine hv_aload_n hc dL_law_1075 rfl (hv_m 1 rfl) ?_
  refine hv_aload_n hc dL_law_1076 rfl (hv_m 0 rfl) ?_
  refine hv_iload_n hc dL_law_1077 rfl (hv_m 3 rfl) ?_
  refine hv_iconst hc dL_law_1078 ?_
  refine hv_iadd hc dL_law_1079 ?_
  refine hv_scld hc hw dL_law_1080 (fun v1 => ?_)
  refine hv_aload_n hc dL_law_1081 rfl (hv_m 0 rfl) ?_
  refine hv_iload_n hc dL_law_1082 rfl (hv_m 3 rfl) ?_
  refine hv_iconst hc dL_law_1083 ?_
  refine hv_iadd hc dL_law_1084 ?_
  refine hv_scld hc hw dL_law_1085 (fun v2 => ?_)
  refine hv_callVi hc (c_X10_left v1 v2 mem) yv_X10_left tw_1038 sh_o_0 rfl rfl rfl rfl (Nat.le_of_ble_eq_true rfl) (Nat.le_of_ble_eq_true rfl) (by omega) (by omega) dL_law_1086 (fun r3 m4 => ?_)
  refine hv_aload_n hc dL_law_1089 rfl (hv_m 2 rfl) ?_
  refine hv_aload_n hc dL_law_1090 rfl (hv_m 0 rfl) ?_
  refine hv_iload_n hc dL_law_1091 rfl (hv_m 3 rfl) ?_
  refine hv_iconst hc dL_law_1092 ?_
  refine hv_iadd hc dL_law_1093 ?_
  refine hv_scld hc hw dL_law_1094 (fun v5 => ?_)
  refine hv_aload_n hc dL_law_1095 rfl (hv_m 0 rfl) ?_
  refine hv_iload_n hc dL_law_1096 rfl (hv_m 3 rfl) ?_
  refine hv_iconst hc dL_law_1097 ?_
  refine hv_iadd hc dL_law_1098 ?_
  refine hv_scld hc hw dL_law_1099 (fun v6 => ?_)
  refine hv_callVi hc (c_X11_left v5 v6 m4) yv_X11_left tw_1570 sh_o_65 rfl rfl rfl rfl (Nat.le_of_ble_eq_true rfl) (Nat.le_of_ble_eq_true rfl) (by omega) (by omega) dL_law_1100 (fun r7 m8 => ?_)
  refine hv_icmp_eq (tgt := 1355) hc dL_law_1103 (by decide) ?_ ?_
  · refine hv_iinc_s (lvf := fun y9 => [(3, .int (hv_I y9)), (0, .ref bS), (1, .ref (hv_ad X 0)), (2, .ref (hv_ad X 65))]) hc dL_law_1355 (by decide) (hv_m 3 rfl) (fun _ => rfl) (fun y9 => ?_)
    refine hv_goto (tgt := 18) hc dL_law_1358 (by decide) ?_
    refine hv_widen (c2 := C + 2) (s2 := S + 60) (by omega) (by omega) ?_
    exact hv_pick [1, 2, 3, 0] rfl (hR18 y9 m8)
  · exact hv_none
def K_law_1108 (xs : Nat → Int) (L : Nat) (R18 : Int → hMem → hRs) (x3 : Int) (mem : hMem) : hRs := hv_sc xs L (x3 + 1) (fun v1 => hv_sc xs L (x3 + 2) (fun v2 => hv_b (f_X10_done v1 v2 mem) (fun r3 m4 => hv_sc xs L (x3 + 1) (fun v5 => hv_sc xs L (x3 + 2) (fun v6 => hv_b (f_X11_done v5 v6 m4) (fun r7 m8 => hv_eq r3 r7 (hv_set (x3 + 6) (fun y9 => R18 y9 m8)) (none)))))))
set_option maxRecDepth 100000 in
theorem gK_law_1108 {X : hv_X} {bS L : Nat} {xs : Nat → Int} (hc : hv_C X cL_law 4 RL ret 2048 600000 7302250) (hw : hv_LW X bS L xs) {C S : Nat} (hC : C + 2 ≤ 600000) (hS : S + 60 ≤ 7302250) (R18 : Int → hMem → hRs) (hR18 : ∀ (x3 : Int) (mem : hMem), hv_R X 4 (C + 2) (S + 60) (hv_ZX X) (R18 x3 mem) mem [] [(0, .ref bS), (1, .ref (hv_ad X 0)), (2, .ref (hv_ad X 65)), (3, .int (hv_I x3))] [] 18) (x3 : Int) (mem : hMem) : hv_R X 4 C S (hv_ZX X) (K_law_1108 xs L R18 x3 mem) mem [] [(0, .ref bS), (1, .ref (hv_ad X 0)), (2, .ref (hv_ad X 65)), (3, .int (hv_I x3))] [] 1108 := by
  unfold K_law_1108
  refine hv_aload_n hc dL_law_1108 rfl (hv_m 1 rfl) ?_
  refine hv_aload_n hc dL_law_1109 rfl (hv_m 0 rfl) ?_
  refine hv_iload_n hc dL_law_1110 rfl (hv_m 3 rfl) ?_
  refine hv_iconst hc dL_law_1111 ?_
  refine hv_iadd hc dL_law_1112 ?_
  refine hv_scld hc hw dL_law_1113 (fun v1 => ?_)
  refine hv_aload_n hc dL_law_1114 rfl (hv_m 0 rfl) ?_
  refine hv_iload_n hc dL_law_1115 rfl (hv_m 3 rfl) ?_
  refine hv_iconst hc dL_law_1116 ?_
  refine hv_iadd hc dL_law_1117 ?_
  refine hv_scld hc hw dL_law_1118 (fun v2 => ?_)
  refine hv_callVi hc (c_X10_done v1 v2 mem) yv_X10_done tw_1042 sh_o_0 rfl rfl rfl rfl (Nat.le_of_ble_eq_true rfl) (Nat.le_of_ble_eq_true rfl) (by omega) (by omega) dL_law_1119 (fun r3 m4 => ?_)
  refine hv_aload_n hc dL_law_1122 rfl (hv_m 2 rfl) ?_
  refine hv_aload_n hc dL_law_1123 rfl (hv_m 0 rfl) ?_
  refine hv_iload_n hc dL_law_1124 rfl (hv_m 3 rfl) ?_
  refine hv_iconst hc dL_law_1125 ?_
  refine hv_iadd hc dL_law_1126 ?_
  refine hv_scld hc hw dL_law_1127 (fun v5 => ?_)
  refine hv_aload_n hc dL_law_1128 rfl (hv_m 0 rfl) ?_
  refine hv_iload_n hc dL_law_1129 rfl (hv_m 3 rfl) ?_
  refine hv_iconst hc dL_law_1130 ?_
  refine hv_iadd hc dL_law_1131 ?_
  refine hv_scld hc hw dL_law_1132 (fun v6 => ?_)
  refine hv_callVi hc (c_X11_done v5 v6 m4) yv_X11_done tw_1574 sh_o_65 rfl rfl rfl rfl (Nat.le_of_ble_eq_true rfl) (Nat.le_of_ble_eq_true rfl) (by omega) (by omega) dL_law_1133 (fun r7 m8 => ?_)
  refine hv_icmp_eq (tgt := 1355) hc dL_law_1136 (by decide) ?_ ?_
  · refine hv_iinc_s (lvf := fun y9 => [(3, .int (hv_I y9)), (0, .ref bS), (1, .ref (hv_ad X 0)), (2, .ref (hv_ad X 65))]) hc dL_law_1355 (by decide) (hv_m 3 rfl) (fun _ => rfl) (fun y9 => ?_)
    refine hv_goto (tgt := 18) hc dL_law_1358 (by decide) ?_
    refine hv_widen (c2 := C + 2) (s2 := S + 60) (by omega) (by omega) ?_
    exact hv_pick [1, 2, 3, 0] rfl (hR18 y9 m8)
  · exact hv_none
def K_law_1141 (xs : Nat → Int) (L : Nat) (R18 : Int → hMem → hRs) (x3 : Int) (mem : hMem) : hRs := hv_sc xs L (x3 + 1) (fun v1 => hv_sc xs L (x3 + 2) (fun v2 => hv_b (f_X10_hand v1 v2 mem) (fun r3 m4 => hv_sc xs L (x3 + 1) (fun v5 => hv_sc xs L (x3 + 2) (fun v6 => hv_b (f_X11_hand v5 v6 m4) (fun r7 m8 => hv_eq r3 r7 (hv_set (x3 + 6) (fun y9 => R18 y9 m8)) (none)))))))
set_option maxRecDepth 100000 in
theorem gK_law_1141 {X : hv_X} {bS L : Nat} {xs : Nat → Int} (hc : hv_C X cL_law 4 RL ret 2048 600000 7302250) (hw : hv_LW X bS L xs) {C S : Nat} (hC : C + 2 ≤ 600000) (hS : S + 60 ≤ 7302250) (R18 : Int → hMem → hRs) (hR18 : ∀ (x3 : Int) (mem : hMem), hv_R X 4 (C + 2) (S + 60) (hv_ZX X) (R18 x3 mem) mem [] [(0, .ref bS), (1, .ref (hv_ad X 0)), (2, .ref (hv_ad X 65)), (3, .int (hv_I x3))] [] 18) (x3 : Int) (mem : hMem) : hv_R X 4 C S (hv_ZX X) (K_law_1141 xs L R18 x3 mem) mem [] [(0, .ref bS), (1, .ref (hv_ad X 0)), (2, .ref (hv_ad X 65)), (3, .int (hv_I x3))] [] 1141 := by
  unfold K_law_1141
  refine hv_aload_n hc dL_law_1141 rfl (hv_m 1 rfl) ?_
  refine hv_aload_n hc dL_law_1142 rfl (hv_m 0 rfl) ?_
  refine hv_iload_n hc dL_law_1143 rfl (hv_m 3 rfl) ?_
  refine hv_iconst hc dL_law_1144 ?_
  refine hv_iadd hc dL_law_1145 ?_
  refine hv_scld hc hw dL_law_1146 (fun v1 => ?_)
  refine hv_aload_n hc dL_law_1147 rfl (hv_m 0 rfl) ?_
  refine hv_iload_n hc dL_law_1148 rfl (hv_m 3 rfl) ?_
  refine hv_iconst hc dL_law_1149 ?_
  refine hv_iadd hc dL_law_1150 ?_
  refine hv_scld hc hw dL_law_1151 (fun v2 => ?_)
  refine hv_callVi hc (c_X10_hand v1 v2 mem) yv_X10_hand tw_1081 sh_o_0 rfl rfl rfl rfl (Nat.le_of_ble_eq_true rfl) (Nat.le_of_ble_eq_true rfl) (by omega) (by omega) dL_law_1152 (fun r3 m4 => ?_)
  refine hv_aload_n hc dL_law_1155 rfl (hv_m 2 rfl) ?_
  refine hv_aload_n hc dL_law_1156 rfl (hv_m 0 rfl) ?_
  refine hv_iload_n hc dL_law_1157 rfl (hv_m 3 rfl) ?_
  refine hv_iconst hc dL_law_1158 ?_
  refine hv_iadd hc dL_law_1159 ?_
  refine hv_scld hc hw dL_law_1160 (fun v5 => ?_)
  refine hv_aload_n hc dL_law_1161 rfl (hv_m 0 rfl) ?_
  refine hv_iload_n hc dL_law_1162 rfl (hv_m 3 rfl) ?_
  refine hv_iconst hc dL_law_1163 ?_
  refine hv_iadd hc dL_law_1164 ?_
  refine hv_scld hc hw dL_law_1165 (fun v6 => ?_)
  refine hv_callVi hc (c_X11_hand v5 v6 m4) yv_X11_hand tw_1583 sh_o_65 rfl rfl rfl rfl (Nat.le_of_ble_eq_true rfl) (Nat.le_of_ble_eq_true rfl) (by omega) (by omega) dL_law_1166 (fun r7 m8 => ?_)
  refine hv_icmp_eq (tgt := 1355) hc dL_law_1169 (by decide) ?_ ?_
  · refine hv_iinc_s (lvf := fun y9 => [(3, .int (hv_I y9)), (0, .ref bS), (1, .ref (hv_ad X 0)), (2, .ref (hv_ad X 65))]) hc dL_law_1355 (by decide) (hv_m 3 rfl) (fun _ => rfl) (fun y9 => ?_)
    refine hv_goto (tgt := 18) hc dL_law_1358 (by decide) ?_
    refine hv_widen (c2 := C + 2) (s2 := S + 60) (by omega) (by omega) ?_
    exact hv_pick [1, 2, 3, 0] rfl (hR18 y9 m8)
  · exact hv_none
def K_law_1174 (xs : Nat → Int) (L : Nat) (R18 : Int → hMem → hRs) (x3 : Int) (mem : hMem) : hRs := hv_sc xs L (x3 + 1) (fun v1 => hv_sc xs L (x3 + 2) (fun v2 => hv_b (f_X10_ends v1 v2 mem) (fun r3 m4 => hv_sc xs L (x3 + 1) (fun v5 => hv_sc xs L (x3 + 2) (fun v6 => hv_b (f_X11_ends v5 v6 m4) (fun r7 m8 => hv_eq r3 r7 (hv_set (x3 + 6) (fun y9 => R18 y9 m8)) (none)))))))
set_option maxRecDepth 100000 in
theorem gK_law_1174 {X : hv_X} {bS L : Nat} {xs : Nat → Int} (hc : hv_C X cL_law 4 RL ret 2048 600000 7302250) (hw : hv_LW X bS L xs) {C S : Nat} (hC : C + 2 ≤ 600000) (hS : S + 60 ≤ 7302250) (R18 : Int → hMem → hRs) (hR18 : ∀ (x3 : Int) (mem : hMem), hv_R X 4 (C + 2) (S + 60) (hv_ZX X) (R18 x3 mem) mem [] [(0, .ref bS), (1, .ref (hv_ad X 0)), (2, .ref (hv_ad X 65)), (3, .int (hv_I x3))] [] 18) (x3 : Int) (mem : hMem) : hv_R X 4 C S (hv_ZX X) (K_law_1174 xs L R18 x3 mem) mem [] [(0, .ref bS), (1, .ref (hv_ad X 0)), (2, .ref (hv_ad X 65)), (3, .int (hv_I x3))] [] 1174 := by
  unfold K_law_1174
  refine hv_aload_n hc dL_law_1174 rfl (hv_m 1 rfl) ?_
  refine hv_aload_n hc dL_law_1175 rfl (hv_m 0 rfl) ?_
  refine hv_iload_n hc dL_law_1176 rfl (hv_m 3 rfl) ?_
  refine hv_iconst hc dL_law_1177 ?_
  refine hv_iadd hc dL_law_1178 ?_
  refine hv_scld hc hw dL_law_1179 (fun v1 => ?_)
  refine hv_aload_n hc dL_law_1180 rfl (hv_m 0 rfl) ?_
  refine hv_iload_n hc dL_law_1181 rfl (hv_m 3 rfl) ?_
  refine hv_iconst hc dL_law_1182 ?_
  refine hv_iadd hc dL_law_1183 ?_
  refine hv_scld hc hw dL_law_1184 (fun v2 => ?_)
  refine hv_callVi hc (c_X10_ends v1 v2 mem) yv_X10_ends tw_1089 sh_o_0 rfl rfl rfl rfl (Nat.le_of_ble_eq_true rfl) (Nat.le_of_ble_eq_true rfl) (by omega) (by omega) dL_law_1185 (fun r3 m4 => ?_)
  refine hv_aload_n hc dL_law_1188 rfl (hv_m 2 rfl) ?_
  refine hv_aload_n hc dL_law_1189 rfl (hv_m 0 rfl) ?_
  refine hv_iload_n hc dL_law_1190 rfl (hv_m 3 rfl) ?_
  refine hv_iconst hc dL_law_1191 ?_
  refine hv_iadd hc dL_law_1192 ?_
  refine hv_scld hc hw dL_law_1193 (fun v5 => ?_)
  refine hv_aload_n hc dL_law_1194 rfl (hv_m 0 rfl) ?_
  refine hv_iload_n hc dL_law_1195 rfl (hv_m 3 rfl) ?_
  refine hv_iconst hc dL_law_1196 ?_
  refine hv_iadd hc dL_law_1197 ?_
  refine hv_scld hc hw dL_law_1198 (fun v6 => ?_)
  refine hv_callVi hc (c_X11_ends v5 v6 m4) yv_X11_ends tw_1587 sh_o_65 rfl rfl rfl rfl (Nat.le_of_ble_eq_true rfl) (Nat.le_of_ble_eq_true rfl) (by omega) (by omega) dL_law_1199 (fun r7 m8 => ?_)
  refine hv_icmp_eq (tgt := 1355) hc dL_law_1202 (by decide) ?_ ?_
  · refine hv_iinc_s (lvf := fun y9 => [(3, .int (hv_I y9)), (0, .ref bS), (1, .ref (hv_ad X 0)), (2, .ref (hv_ad X 65))]) hc dL_law_1355 (by decide) (hv_m 3 rfl) (fun _ => rfl) (fun y9 => ?_)
    refine hv_goto (tgt := 18) hc dL_law_1358 (by decide) ?_
    refine hv_widen (c2 := C + 2) (s2 := S + 60) (by omega) (by omega) ?_
    exact hv_pick [1, 2, 3, 0] rfl (hR18 y9 m8)
  · exact hv_none
def K_law_1207 (xs : Nat → Int) (L : Nat) (R18 : Int → hMem → hRs) (x3 : Int) (mem : hMem) : hRs := hv_sc xs L (x3 + 1) (fun v1 => hv_b (f_X10_hands v1 mem) (fun r2 m3 => hv_sc xs L (x3 + 1) (fun v4 => hv_b (f_X11_hands v4 m3) (fun r5 m6 => hv_eq r2 r5 (hv_set (x3 + 6) (fun y7 => R18 y7 m6)) (none)))))
set_option maxRecDepth 100000 in
theorem gK_law_1207 {X : hv_X} {bS L : Nat} {xs : Nat → Int} (hc : hv_C X cL_law 4 RL ret 2048 600000 7302250) (hw : hv_LW X bS L xs) {C S : Nat} (hC : C + 2 ≤ 600000) (hS : S + 60 ≤ 7302250) (R18 : Int → hMem → hRs) (hR18 : ∀ (x3 : Int) (mem : hMem), hv_R X 4 (C + 2) (S + 60) (hv_ZX X) (R18 x3 mem) mem [] [(0, .ref bS), (1, .ref (hv_ad X 0)), (2, .ref (hv_ad X 65)), (3, .int (hv_I x3))] [] 18) (x3 : Int) (mem : hMem) : hv_R X 4 C S (hv_ZX X) (K_law_1207 xs L R18 x3 mem) mem [] [(0, .ref bS), (1, .ref (hv_ad X 0)), (2, .ref (hv_ad X 65)), (3, .int (hv_I x3))] [] 1207 := by
  unfold K_law_1207
  refine hv_aload_n hc dL_law_1207 rfl (hv_m 1 rfl) ?_
  refine hv_aload_n hc dL_law_1208 rfl (hv_m 0 rfl) ?_
  refine hv_iload_n hc dL_law_1209 rfl (hv_m 3 rfl) ?_
  refine hv_iconst hc dL_law_1210 ?_
  refine hv_iadd hc dL_law_1211 ?_
  refine hv_scld hc hw dL_law_1212 (fun v1 => ?_)
  refine hv_callVi hc (c_X10_hands v1 mem) yv_X10_hands tw_1097 sh_o_0 rfl rfl rfl rfl (Nat.le_of_ble_eq_true rfl) (Nat.le_of_ble_eq_true rfl) (by omega) (by omega) dL_law_1213 (fun r2 m3 => ?_)
  refine hv_aload_n hc dL_law_1216 rfl (hv_m 2 rfl) ?_
  refine hv_aload_n hc dL_law_1217 rfl (hv_m 0 rfl) ?_
  refine hv_iload_n hc dL_law_1218 rfl (hv_m 3 rfl) ?_
  refine hv_iconst hc dL_law_1219 ?_
  refine hv_iadd hc dL_law_1220 ?_
  refine hv_scld hc hw dL_law_1221 (fun v4 => ?_)
  refine hv_callVi hc (c_X11_hands v4 m3) yv_X11_hands tw_1591 sh_o_65 rfl rfl rfl rfl (Nat.le_of_ble_eq_true rfl) (Nat.le_of_ble_eq_true rfl) (by omega) (by omega) dL_law_1222 (fun r5 m6 => ?_)
  refine hv_icmp_eq (tgt := 1355) hc dL_law_1225 (by decide) ?_ ?_
  · refine hv_iinc_s (lvf := fun y7 => [(3, .int (hv_I y7)), (0, .ref bS), (1, .ref (hv_ad X 0)), (2, .ref (hv_ad X 65))]) hc dL_law_1355 (by decide) (hv_m 3 rfl) (fun _ => rfl) (fun y7 => ?_)
    refine hv_goto (tgt := 18) hc dL_law_1358 (by decide) ?_
    refine hv_widen (c2 := C + 2) (s2 := S + 60) (by omega) (by omega) ?_
    exact hv_pick [1, 2, 3, 0] rfl (hR18 y7 m6)
  · exact hv_none
def K_law_1230 (xs : Nat → Int) (L : Nat) (R18 : Int → hMem → hRs) (x3 : Int) (mem : hMem) : hRs := hv_sc xs L (x3 + 1) (fun v1 => hv_sc xs L (x3 + 2) (fun v2 => hv_sc xs L (x3 + 3) (fun v3 => hv_b (f_X10_puts v1 v2 v3 mem) (fun r4 m5 => hv_sc xs L (x3 + 1) (fun v6 => hv_sc xs L (x3 + 2) (fun v7 => hv_sc xs L (x3 + 3) (fun v8 => hv_b (f_X11_puts v6 v7 v8 m5) (fun r9 m10 => hv_eq r4 r9 (hv_set (x3 + 6) (fun y11 => R18 y11 m10)) (none)))))))))
set_option maxRecDepth 100000 in
theorem gK_law_1230 {X : hv_X} {bS L : Nat} {xs : Nat → Int} (hc : hv_C X cL_law 4 RL ret 2048 600000 7302250) (hw : hv_LW X bS L xs) {C S : Nat} (hC : C + 2 ≤ 600000) (hS : S + 60 ≤ 7302250) (R18 : Int → hMem → hRs) (hR18 : ∀ (x3 : Int) (mem : hMem), hv_R X 4 (C + 2) (S + 60) (hv_ZX X) (R18 x3 mem) mem [] [(0, .ref bS), (1, .ref (hv_ad X 0)), (2, .ref (hv_ad X 65)), (3, .int (hv_I x3))] [] 18) (x3 : Int) (mem : hMem) : hv_R X 4 C S (hv_ZX X) (K_law_1230 xs L R18 x3 mem) mem [] [(0, .ref bS), (1, .ref (hv_ad X 0)), (2, .ref (hv_ad X 65)), (3, .int (hv_I x3))] [] 1230 := by
  unfold K_law_1230
  refine hv_aload_n hc dL_law_1230 rfl (hv_m 1 rfl) ?_
  refine hv_aload_n hc dL_law_1231 rfl (hv_m 0 rfl) ?_
  refine hv_iload_n hc dL_law_1232 rfl (hv_m 3 rfl) ?_
  refine hv_iconst hc dL_law_1233 ?_
  refine hv_iadd hc dL_law_1234 ?_
  refine hv_scld hc hw dL_law_1235 (fun v1 => ?_)
  refine hv_aload_n hc dL_law_1236 rfl (hv_m 0 rfl) ?_
  refine hv_iload_n hc dL_law_1237 rfl (hv_m 3 rfl) ?_
  refine hv_iconst hc dL_law_1238 ?_
  refine hv_iadd hc dL_law_1239 ?_
  refine hv_scld hc hw dL_law_1240 (fun v2 => ?_)
  refine hv_aload_n hc dL_law_1241 rfl (hv_m 0 rfl) ?_
  refine hv_iload_n hc dL_law_1242 rfl (hv_m 3 rfl) ?_
  refine hv_iconst hc dL_law_1243 ?_
  refine hv_iadd hc dL_law_1244 ?_
  refine hv_scld hc hw dL_law_1245 (fun v3 => ?_)
  refine hv_callVi hc (c_X10_puts v1 v2 v3 mem) yv_X10_puts tw_1101 sh_o_0 rfl rfl rfl rfl (Nat.le_of_ble_eq_true rfl) (Nat.le_of_ble_eq_true rfl) (by omega) (by omega) dL_law_1246 (fun r4 m5 => ?_)
  refine hv_aload_n hc dL_law_1249 rfl (hv_m 2 rfl) ?_
  refine hv_aload_n hc dL_law_1250 rfl (hv_m 0 rfl) ?_
  refine hv_iload_n hc dL_law_1251 rfl (hv_m 3 rfl) ?_
  refine hv_iconst hc dL_law_1252 ?_
  refine hv_iadd hc dL_law_1253 ?_
  refine hv_scld hc hw dL_law_1254 (fun v6 => ?_)
  refine hv_aload_n hc dL_law_1255 rfl (hv_m 0 rfl) ?_
  refine hv_iload_n hc dL_law_1256 rfl (hv_m 3 rfl) ?_
  refine hv_iconst hc dL_law_1257 ?_
  refine hv_iadd hc dL_law_1258 ?_
  refine hv_scld hc hw dL_law_1259 (fun v7 => ?_)
  refine hv_aload_n hc dL_law_1260 rfl (hv_m 0 rfl) ?_
  refine hv_iload_n hc dL_law_1261 rfl (hv_m 3 rfl) ?_
  refine hv_iconst hc dL_law_1262 ?_
  refine hv_iadd hc dL_law_1263 ?_
  refine hv_scld hc hw dL_law_1264 (fun v8 => ?_)
  refine hv_callVi hc (c_X11_puts v6 v7 v8 m5) yv_X11_puts tw_1595 sh_o_65 rfl rfl rfl rfl (Nat.le_of_ble_eq_true rfl) (Nat.le_of_ble_eq_true rfl) (by omega) (by omega) dL_law_1265 (fun r9 m10 => ?_)
  refine hv_icmp_eq (tgt := 1355) hc dL_law_1268 (by decide) ?_ ?_
  · refine hv_iinc_s (lvf := fun y11 => [(3, .int (hv_I y11)), (0, .ref bS), (1, .ref (hv_ad X 0)), (2, .ref (hv_ad X 65))]) hc dL_law_1355 (by decide) (hv_m 3 rfl) (fun _ => rfl) (fun y11 => ?_)
    refine hv_goto (tgt := 18) hc dL_law_1358 (by decide) ?_
    refine hv_widen (c2 := C + 2) (s2 := S + 60) (by omega) (by omega) ?_
    exact hv_pick [1, 2, 3, 0] rfl (hR18 y11 m10)
  · exact hv_none
def K_law_1273 (xs : Nat → Int) (L : Nat) (R18 : Int → hMem → hRs) (x3 : Int) (mem : hMem) : hRs := hv_sc xs L (x3 + 1) (fun v1 => hv_sc xs L (x3 + 2) (fun v2 => hv_b (f_X10_joins v1 v2 mem) (fun r3 m4 => hv_sc xs L (x3 + 1) (fun v5 => hv_sc xs L (x3 + 2) (fun v6 => hv_b (f_X11_joins_ v5 v6 m4) (fun r7 m8 => hv_eq r3 r7 (hv_set (x3 + 6) (fun y9 => R18 y9 m8)) (none)))))))
set_option maxRecDepth 100000 in
theorem gK_law_1273 {X : hv_X} {bS L : Nat} {xs : Nat → Int} (hc : hv_C X cL_law 4 RL ret 2048 600000 7302250) (hw : hv_LW X bS L xs) {C S : Nat} (hC : C + 2 ≤ 600000) (hS : S + 60 ≤ 7302250) (R18 : Int → hMem → hRs) (hR18 : ∀ (x3 : Int) (mem : hMem), hv_R X 4 (C + 2) (S + 60) (hv_ZX X) (R18 x3 mem) mem [] [(0, .ref bS), (1, .ref (hv_ad X 0)), (2, .ref (hv_ad X 65)), (3, .int (hv_I x3))] [] 18) (x3 : Int) (mem : hMem) : hv_R X 4 C S (hv_ZX X) (K_law_1273 xs L R18 x3 mem) mem [] [(0, .ref bS), (1, .ref (hv_ad X 0)), (2, .ref (hv_ad X 65)), (3, .int (hv_I x3))] [] 1273 := by
  unfold K_law_1273
  refine hv_aload_n hc dL_law_1273 rfl (hv_m 1 rfl) ?_
  refine hv_aload_n hc dL_law_1274 rfl (hv_m 0 rfl) ?_
  refine hv_iload_n hc dL_law_1275 rfl (hv_m 3 rfl) ?_
  refine hv_iconst hc dL_law_1276 ?_
  refine hv_iadd hc dL_law_1277 ?_
  refine hv_scld hc hw dL_law_1278 (fun v1 => ?_)
  refine hv_aload_n hc dL_law_1279 rfl (hv_m 0 rfl) ?_
  refine hv_iload_n hc dL_law_1280 rfl (hv_m 3 rfl) ?_
  refine hv_iconst hc dL_law_1281 ?_
  refine hv_iadd hc dL_law_1282 ?_
  refine hv_scld hc hw dL_law_1283 (fun v2 => ?_)
  refine hv_callVi hc (c_X10_joins v1 v2 mem) yv_X10_joins tw_1105 sh_o_0 rfl rfl rfl rfl (Nat.le_of_ble_eq_true rfl) (Nat.le_of_ble_eq_true rfl) (by omega) (by omega) dL_law_1284 (fun r3 m4 => ?_)
  refine hv_aload_n hc dL_law_1287 rfl (hv_m 2 rfl) ?_
  refine hv_aload_n hc dL_law_1288 rfl (hv_m 0 rfl) ?_
  refine hv_iload_n hc dL_law_1289 rfl (hv_m 3 rfl) ?_
  refine hv_iconst hc dL_law_1290 ?_
  refine hv_iadd hc dL_law_1291 ?_
  refine hv_scld hc hw dL_law_1292 (fun v5 => ?_)
  refine hv_aload_n hc dL_law_1293 rfl (hv_m 0 rfl) ?_
  refine hv_iload_n hc dL_law_1294 rfl (hv_m 3 rfl) ?_
  refine hv_iconst hc dL_law_1295 ?_
  refine hv_iadd hc dL_law_1296 ?_
  refine hv_scld hc hw dL_law_1297 (fun v6 => ?_)
  refine hv_callVi hc (c_X11_joins_ v5 v6 m4) yv_X11_joins_ tw_1605 sh_o_65 rfl rfl rfl rfl (Nat.le_of_ble_eq_true rfl) (Nat.le_of_ble_eq_true rfl) (by omega) (by omega) dL_law_1298 (fun r7 m8 => ?_)
  refine hv_icmp_eq (tgt := 1355) hc dL_law_1301 (by decide) ?_ ?_
  · refine hv_iinc_s (lvf := fun y9 => [(3, .int (hv_I y9)), (0, .ref bS), (1, .ref (hv_ad X 0)), (2, .ref (hv_ad X 65))]) hc dL_law_1355 (by decide) (hv_m 3 rfl) (fun _ => rfl) (fun y9 => ?_)
    refine hv_goto (tgt := 18) hc dL_law_1358 (by decide) ?_
    refine hv_widen (c2 := C + 2) (s2 := S + 60) (by omega) (by omega) ?_
    exact hv_pick [1, 2, 3, 0] rfl (hR18 y9 m8)
  · exact hv_none
def K_law_1306 (xs : Nat → Int) (L : Nat) (R18 : Int → hMem → hRs) (x3 : Int) (mem : hMem) : hRs := hv_sc xs L (x3 + 1) (fun v1 => hv_b (f_X10_takes v1 mem) (fun r2 m3 => hv_sc xs L (x3 + 1) (fun v4 => hv_b (f_X11_takes_ v4 m3) (fun r5 m6 => hv_eq r2 r5 (hv_set (x3 + 6) (fun y7 => R18 y7 m6)) (none)))))
set_option maxRecDepth 100000 in
theorem gK_law_1306 {X : hv_X} {bS L : Nat} {xs : Nat → Int} (hc : hv_C X cL_law 4 RL ret 2048 600000 7302250) (hw : hv_LW X bS L xs) {C S : Nat} (hC : C + 2 ≤ 600000) (hS : S + 60 ≤ 7302250) (R18 : Int → hMem → hRs) (hR18 : ∀ (x3 : Int) (mem : hMem), hv_R X 4 (C + 2) (S + 60) (hv_ZX X) (R18 x3 mem) mem [] [(0, .ref bS), (1, .ref (hv_ad X 0)), (2, .ref (hv_ad X 65)), (3, .int (hv_I x3))] [] 18) (x3 : Int) (mem : hMem) : hv_R X 4 C S (hv_ZX X) (K_law_1306 xs L R18 x3 mem) mem [] [(0, .ref bS), (1, .ref (hv_ad X 0)), (2, .ref (hv_ad X 65)), (3, .int (hv_I x3))] [] 1306 := by
  unfold K_law_1306
  refine hv_aload_n hc dL_law_1306 rfl (hv_m 1 rfl) ?_
  refine hv_aload_n hc dL_law_1307 rfl (hv_m 0 rfl) ?_
  refine hv_iload_n hc dL_law_1308 rfl (hv_m 3 rfl) ?_
  refine hv_iconst hc dL_law_1309 ?_
  refine hv_iadd hc dL_law_1310 ?_
  refine hv_scld hc hw dL_law_1311 (fun v1 => ?_)
  refine hv_callVi hc (c_X10_takes v1 mem) yv_X10_takes tw_1109 sh_o_0 rfl rfl rfl rfl (Nat.le_of_ble_eq_true rfl) (Nat.le_of_ble_eq_true rfl) (by omega) (by omega) dL_law_1312 (fun r2 m3 => ?_)
  refine hv_aload_n hc dL_law_1315 rfl (hv_m 2 rfl) ?_
  refine hv_aload_n hc dL_law_1316 rfl (hv_m 0 rfl) ?_
  refine hv_iload_n hc dL_law_1317 rfl (hv_m 3 rfl) ?_
  refine hv_iconst hc dL_law_1318 ?_
  refine hv_iadd hc dL_law_1319 ?_
  refine hv_scld hc hw dL_law_1320 (fun v4 => ?_)
  refine hv_callVi hc (c_X11_takes_ v4 m3) yv_X11_takes_ tw_1609 sh_o_65 rfl rfl rfl rfl (Nat.le_of_ble_eq_true rfl) (Nat.le_of_ble_eq_true rfl) (by omega) (by omega) dL_law_1321 (fun r5 m6 => ?_)
  refine hv_icmp_eq (tgt := 1355) hc dL_law_1324 (by decide) ?_ ?_
  · refine hv_iinc_s (lvf := fun y7 => [(3, .int (hv_I y7)), (0, .ref bS), (1, .ref (hv_ad X 0)), (2, .ref (hv_ad X 65))]) hc dL_law_1355 (by decide) (hv_m 3 rfl) (fun _ => rfl) (fun y7 => ?_)
    refine hv_goto (tgt := 18) hc dL_law_1358 (by decide) ?_
    refine hv_widen (c2 := C + 2) (s2 := S + 60) (by omega) (by omega) ?_
    exact hv_pick [1, 2, 3, 0] rfl (hR18 y7 m6)
  · exact hv_none
def K_law_1329 (xs : Nat → Int) (L : Nat) (R18 : Int → hMem → hRs) (x3 : Int) (mem : hMem) : hRs := hv_b (f_X10_undo mem) (fun r1 m2 => hv_b (f_X11_undo m2) (fun r3 m4 => hv_eq r1 r3 (hv_set (x3 + 6) (fun y5 => R18 y5 m4)) (none)))
set_option maxRecDepth 100000 in
theorem gK_law_1329 {X : hv_X} {bS L : Nat} {xs : Nat → Int} (hc : hv_C X cL_law 4 RL ret 2048 600000 7302250) (hw : hv_LW X bS L xs) {C S : Nat} (hC : C + 2 ≤ 600000) (hS : S + 60 ≤ 7302250) (R18 : Int → hMem → hRs) (hR18 : ∀ (x3 : Int) (mem : hMem), hv_R X 4 (C + 2) (S + 60) (hv_ZX X) (R18 x3 mem) mem [] [(0, .ref bS), (1, .ref (hv_ad X 0)), (2, .ref (hv_ad X 65)), (3, .int (hv_I x3))] [] 18) (x3 : Int) (mem : hMem) : hv_R X 4 C S (hv_ZX X) (K_law_1329 xs L R18 x3 mem) mem [] [(0, .ref bS), (1, .ref (hv_ad X 0)), (2, .ref (hv_ad X 65)), (3, .int (hv_I x3))] [] 1329 := by
  unfold K_law_1329
  refine hv_aload_n hc dL_law_1329 rfl (hv_m 1 rfl) ?_
  refine hv_callVi hc (c_X10_undo mem) yv_X10_undo tw_1113 sh_o_0 rfl rfl rfl rfl (Nat.le_of_ble_eq_true rfl) (Nat.le_of_ble_eq_true rfl) (by omega) (by omega) dL_law_1330 (fun r1 m2 => ?_)
  refine hv_aload_n hc dL_law_1333 rfl (hv_m 2 rfl) ?_
  refine hv_callVi hc (c_X11_undo m2) yv_X11_undo tw_1613 sh_o_65 rfl rfl rfl rfl (Nat.le_of_ble_eq_true rfl) (Nat.le_of_ble_eq_true rfl) (by omega) (by omega) dL_law_1334 (fun r3 m4 => ?_)
  refine hv_icmp_eq (tgt := 1355) hc dL_law_1337 (by decide) ?_ ?_
  · refine hv_iinc_s (lvf := fun y5 => [(3, .int (hv_I y5)), (0, .ref bS), (1, .ref (hv_ad X 0)), (2, .ref (hv_ad X 65))]) hc dL_law_1355 (by decide) (hv_m 3 rfl) (fun _ => rfl) (fun y5 => ?_)
    refine hv_goto (tgt := 18) hc dL_law_1358 (by decide) ?_
    refine hv_widen (c2 := C + 2) (s2 := S + 60) (by omega) (by omega) ?_
    exact hv_pick [1, 2, 3, 0] rfl (hR18 y5 m4)
  · exact hv_none
def K_law_1342 (xs : Nat → Int) (L : Nat) (R18 : Int → hMem → hRs) (x3 : Int) (mem : hMem) : hRs := hv_b (f_X10_anew mem) (fun r1 m2 => hv_b (f_X11_anew m2) (fun r3 m4 => hv_eq r1 r3 (hv_set (x3 + 6) (fun y5 => R18 y5 m4)) (none)))
set_option maxRecDepth 100000 in
theorem gK_law_1342 {X : hv_X} {bS L : Nat} {xs : Nat → Int} (hc : hv_C X cL_law 4 RL ret 2048 600000 7302250) (hw : hv_LW X bS L xs) {C S : Nat} (hC : C + 2 ≤ 600000) (hS : S + 60 ≤ 7302250) (R18 : Int → hMem → hRs) (hR18 : ∀ (x3 : Int) (mem : hMem), hv_R X 4 (C + 2) (S + 60) (hv_ZX X) (R18 x3 mem) mem [] [(0, .ref bS), (1, .ref (hv_ad X 0)), (2, .ref (hv_ad X 65)), (3, .int (hv_I x3))] [] 18) (x3 : Int) (mem : hMem) : hv_R X 4 C S (hv_ZX X) (K_law_1342 xs L R18 x3 mem) mem [] [(0, .ref bS), (1, .ref (hv_ad X 0)), (2, .ref (hv_ad X 65)), (3, .int (hv_I x3))] [] 1342 := by
  unfold K_law_1342
  refine hv_aload_n hc dL_law_1342 rfl (hv_m 1 rfl) ?_
  refine hv_callVi hc (c_X10_anew mem) yv_X10_anew tw_1117 sh_o_0 rfl rfl rfl rfl (Nat.le_of_ble_eq_true rfl) (Nat.le_of_ble_eq_true rfl) (by omega) (by omega) dL_law_1343 (fun r1 m2 => ?_)
  refine hv_aload_n hc dL_law_1346 rfl (hv_m 2 rfl) ?_
  refine hv_callVi hc (c_X11_anew m2) yv_X11_anew tw_1621 sh_o_65 rfl rfl rfl rfl (Nat.le_of_ble_eq_true rfl) (Nat.le_of_ble_eq_true rfl) (by omega) (by omega) dL_law_1347 (fun r3 m4 => ?_)
  refine hv_icmp_eq (tgt := 1355) hc dL_law_1350 (by decide) ?_ ?_
  · refine hv_iinc_s (lvf := fun y5 => [(3, .int (hv_I y5)), (0, .ref bS), (1, .ref (hv_ad X 0)), (2, .ref (hv_ad X 65))]) hc dL_law_1355 (by decide) (hv_m 3 rfl) (fun _ => rfl) (fun y5 => ?_)
    refine hv_goto (tgt := 18) hc dL_law_1358 (by decide) ?_
    refine hv_widen (c2 := C + 2) (s2 := S + 60) (by omega) (by omega) ?_
    exact hv_pick [1, 2, 3, 0] rfl (hR18 y5 m4)
  · exact hv_none
def B_law (xs : Nat → Int) (L : Nat) (R18 : Int → hMem → hRs) (x3 : Int) (mem : hMem) : hRs := hv_lt (((L : Int)) - 6) x3 (hv_ret 1 mem) (hv_sc xs L x3 (fun v1 => hv_tsw (hv_and v1 63) 0 [K_law_212 xs L R18 x3 mem, K_law_275 xs L R18 x3 mem, K_law_298 xs L R18 x3 mem, K_law_311 xs L R18 x3 mem, K_law_334 xs L R18 x3 mem, K_law_357 xs L R18 x3 mem, K_law_390 xs L R18 x3 mem, K_law_423 xs L R18 x3 mem, K_law_446 xs L R18 x3 mem, K_law_469 xs L R18 x3 mem, K_law_502 xs L R18 x3 mem, K_law_535 xs L R18 x3 mem, K_law_558 xs L R18 x3 mem, K_law_591 xs L R18 x3 mem, K_law_624 xs L R18 x3 mem, K_law_657 xs L R18 x3 mem, K_law_690 xs L R18 x3 mem, K_law_713 xs L R18 x3 mem, K_law_736 xs L R18 x3 mem, K_law_759 xs L R18 x3 mem, K_law_792 xs L R18 x3 mem, K_law_815 xs L R18 x3 mem, K_law_828 xs L R18 x3 mem, K_law_861 xs L R18 x3 mem, K_law_874 xs L R18 x3 mem, K_law_897 xs L R18 x3 mem, K_law_920 xs L R18 x3 mem, K_law_953 xs L R18 x3 mem, K_law_986 xs L R18 x3 mem, K_law_1019 xs L R18 x3 mem, K_law_1042 xs L R18 x3 mem, K_law_1075 xs L R18 x3 mem, K_law_1108 xs L R18 x3 mem, K_law_1141 xs L R18 x3 mem, K_law_1174 xs L R18 x3 mem, K_law_1207 xs L R18 x3 mem, K_law_1230 xs L R18 x3 mem, K_law_1273 xs L R18 x3 mem, K_law_1306 xs L R18 x3 mem, K_law_1329 xs L R18 x3 mem, K_law_1342 xs L R18 x3 mem] (hv_set (x3 + 6) (fun y2 => R18 y2 mem))))
def L_law (xs : Nat → Int) (L : Nat) : Nat → Int → hMem → hRs
  | 0 => fun _ _ => none
  | n + 1 => B_law xs L (L_law xs L n)
set_option maxRecDepth 100000 in
set_option maxHeartbeats 4000000 in
theorem gB_law {X : hv_X} {bS L : Nat} {xs : Nat → Int} (hc : hv_C X cL_law 4 RL ret 2048 600000 7302250) (hw : hv_LW X bS L xs) {C S : Nat} (hC : C + 2 ≤ 600000) (hS : S + 60 ≤ 7302250) (R18 : Int → hMem → hRs) (hR18 : ∀ (x3 : Int) (mem : hMem), hv_R X 4 (C + 2) (S + 60) (hv_ZX X) (R18 x3 mem) mem [] [(0, .ref bS), (1, .ref (hv_ad X 0)), (2, .ref (hv_ad X 65)), (3, .int (hv_I x3))] [] 18) (x3 : Int) (mem : hMem) : hv_R X 4 C S (hv_ZX X) (B_law xs L R18 x3 mem) mem [] [(0, .ref bS), (1, .ref (hv_ad X 0)), (2, .ref (hv_ad X 65)), (3, .int (hv_I x3))] [] 18 := by
  unfold B_law
  refine hv_iload_n hc dL_law_18 rfl (hv_m 3 rfl) ?_
  refine hv_aload_n hc dL_law_19 rfl (hv_m 0 rfl) ?_
  refine hv_scln hc hw dL_law_20 ?_
  refine hv_bipush hc dL_law_21 (by decide) ?_
  refine hv_isub hc dL_law_23 ?_
  refine hv_icmp_gt (tgt := 1361) hc dL_law_24 (by decide) ?_ ?_
  · refine hv_iconst hc dL_law_1361 ?_
    exact hv_lawret hc hw dL_law_1362 (by omega) (by omega)
  · refine hv_aload_n hc dL_law_27 rfl (hv_m 0 rfl) ?_
    refine hv_iload_n hc dL_law_28 rfl (hv_m 3 rfl) ?_
    refine hv_scld hc hw dL_law_29 (fun v1 => ?_)
    refine hv_bipush hc dL_law_30 (by decide) ?_
    refine hv_iand hc dL_law_32 ?_
    refine hv_tswitch (tgts := [212, 275, 298, 311, 334, 357, 390, 423, 446, 469, 502, 535, 558, 591, 624, 657, 690, 713, 736, 759, 792, 815, 828, 861, 874, 897, 920, 953, 986, 1019, 1042, 1075, 1108, 1141, 1174, 1207, 1230, 1273, 1306, 1329, 1342]) (tD := 1355) hc dL_law_33 rfl (by decide) (by decide) ⟨?_, ?_, ?_, ?_, ?_, ?_, ?_, ?_, ?_, ?_, ?_, ?_, ?_, ?_, ?_, ?_, ?_, ?_, ?_, ?_, ?_, ?_, ?_, ?_, ?_, ?_, ?_, ?_, ?_, ?_, ?_, ?_, ?_, ?_, ?_, ?_, ?_, ?_, ?_, ?_, ?_, trivial⟩ ?_
    · exact hv_pick [0, 1, 2, 3] rfl (gK_law_212 hc hw hC hS R18 hR18 x3 mem)
    · exact hv_pick [0, 1, 2, 3] rfl (gK_law_275 hc hw hC hS R18 hR18 x3 mem)
    · exact hv_pick [0, 1, 2, 3] rfl (gK_law_298 hc hw hC hS R18 hR18 x3 mem)
    · exact hv_pick [0, 1, 2, 3] rfl (gK_law_311 hc hw hC hS R18 hR18 x3 mem)
    · exact hv_pick [0, 1, 2, 3] rfl (gK_law_334 hc hw hC hS R18 hR18 x3 mem)
    · exact hv_pick [0, 1, 2, 3] rfl (gK_law_357 hc hw hC hS R18 hR18 x3 mem)
    · exact hv_pick [0, 1, 2, 3] rfl (gK_law_390 hc hw hC hS R18 hR18 x3 mem)
    · exact hv_pick [0, 1, 2, 3] rfl (gK_law_423 hc hw hC hS R18 hR18 x3 mem)
    · exact hv_pick [0, 1, 2, 3] rfl (gK_law_446 hc hw hC hS R18 hR18 x3 mem)
    · exact hv_pick [0, 1, 2, 3] rfl (gK_law_469 hc hw hC hS R18 hR18 x3 mem)
    · exact hv_pick [0, 1, 2, 3] rfl (gK_law_502 hc hw hC hS R18 hR18 x3 mem)
    · exact hv_pick [0, 1, 2, 3] rfl (gK_law_535 hc hw hC hS R18 hR18 x3 mem)
    · exact hv_pick [0, 1, 2, 3] rfl (gK_law_558 hc hw hC hS R18 hR18 x3 mem)
    · exact hv_pick [0, 1, 2, 3] rfl (gK_law_591 hc hw hC hS R18 hR18 x3 mem)
    · exact hv_pick [0, 1, 2, 3] rfl (gK_law_624 hc hw hC hS R18 hR18 x3 mem)
    · exact hv_pick [0, 1, 2, 3] rfl (gK_law_657 hc hw hC hS R18 hR18 x3 mem)
    · exact hv_pick [0, 1, 2, 3] rfl (gK_law_690 hc hw hC hS R18 hR18 x3 mem)
    · exact hv_pick [0, 1, 2, 3] rfl (gK_law_713 hc hw hC hS R18 hR18 x3 mem)
    · exact hv_pick [0, 1, 2, 3] rfl (gK_law_736 hc hw hC hS R18 hR18 x3 mem)
    · exact hv_pick [0, 1, 2, 3] rfl (gK_law_759 hc hw hC hS R18 hR18 x3 mem)
    · exact hv_pick [0, 1, 2, 3] rfl (gK_law_792 hc hw hC hS R18 hR18 x3 mem)
    · exact hv_pick [0, 1, 2, 3] rfl (gK_law_815 hc hw hC hS R18 hR18 x3 mem)
    · exact hv_pick [0, 1, 2, 3] rfl (gK_law_828 hc hw hC hS R18 hR18 x3 mem)
    · exact hv_pick [0, 1, 2, 3] rfl (gK_law_861 hc hw hC hS R18 hR18 x3 mem)
    · exact hv_pick [0, 1, 2, 3] rfl (gK_law_874 hc hw hC hS R18 hR18 x3 mem)
    · exact hv_pick [0, 1, 2, 3] rfl (gK_law_897 hc hw hC hS R18 hR18 x3 mem)
    · exact hv_pick [0, 1, 2, 3] rfl (gK_law_920 hc hw hC hS R18 hR18 x3 mem)
    · exact hv_pick [0, 1, 2, 3] rfl (gK_law_953 hc hw hC hS R18 hR18 x3 mem)
    · exact hv_pick [0, 1, 2, 3] rfl (gK_law_986 hc hw hC hS R18 hR18 x3 mem)
    · exact hv_pick [0, 1, 2, 3] rfl (gK_law_1019 hc hw hC hS R18 hR18 x3 mem)
    · exact hv_pick [0, 1, 2, 3] rfl (gK_law_1042 hc hw hC hS R18 hR18 x3 mem)
    · exact hv_pick [0, 1, 2, 3] rfl (gK_law_1075 hc hw hC hS R18 hR18 x3 mem)
    · exact hv_pick [0, 1, 2, 3] rfl (gK_law_1108 hc hw hC hS R18 hR18 x3 mem)
    · exact hv_pick [0, 1, 2, 3] rfl (gK_law_1141 hc hw hC hS R18 hR18 x3 mem)
    · exact hv_pick [0, 1, 2, 3] rfl (gK_law_1174 hc hw hC hS R18 hR18 x3 mem)
    · exact hv_pick [0, 1, 2, 3] rfl (gK_law_1207 hc hw hC hS R18 hR18 x3 mem)
    · exact hv_pick [0, 1, 2, 3] rfl (gK_law_1230 hc hw hC hS R18 hR18 x3 mem)
    · exact hv_pick [0, 1, 2, 3] rfl (gK_law_1273 hc hw hC hS R18 hR18 x3 mem)
    · exact hv_pick [0, 1, 2, 3] rfl (gK_law_1306 hc hw hC hS R18 hR18 x3 mem)
    · exact hv_pick [0, 1, 2, 3] rfl (gK_law_1329 hc hw hC hS R18 hR18 x3 mem)
    · exact hv_pick [0, 1, 2, 3] rfl (gK_law_1342 hc hw hC hS R18 hR18 x3 mem)
    · refine hv_iinc_s (lvf := fun y2 => [(3, .int (hv_I y2)), (0, .ref bS), (1, .ref (hv_ad X 0)), (2, .ref (hv_ad X 65))]) hc dL_law_1355 (by decide) (hv_m 3 rfl) (fun _ => rfl) (fun y2 => ?_)
      refine hv_goto (tgt := 18) hc dL_law_1358 (by decide) ?_
      refine hv_widen (c2 := C + 2) (s2 := S + 60) (by omega) (by omega) ?_
      exact hv_pick [1, 2, 3, 0] rfl (hR18 y2 mem)
theorem g_law {X : hv_X} {bS L : Nat} {xs : Nat → Int} (hc : hv_C X cL_law 4 RL ret 2048 600000 7302250) (hw : hv_LW X bS L xs) : ∀ (n C S : Nat), C + 2 * n ≤ 600000 → S + 60 * n ≤ 7302250 → ∀ (x3 : Int) (mem : hMem), hv_R X 4 C S (hv_ZX X) (L_law xs L n x3 mem) mem [] [(0, .ref bS), (1, .ref (hv_ad X 0)), (2, .ref (hv_ad X 65)), (3, .int (hv_I x3))] [] 18 := by
  intro n
  induction n with
  | zero => intros; exact hv_none
  | succ n ih => exact fun C S hC hS => gB_law hc hw (by omega) (by omega) _ (ih (C + 2) (S + 60) (by omega) (by omega))
