/-! the law -/
/-- the call goes through: on to the next one -/
def Nx (R : Int → hMem → hRs) (i : Int) (r : Nat) (t : hRs) : Prop := ∃ m2 S' r', t = R (i + 6) m2 ∧ AW S' ∧ CI S' r' m2 ∧ RI S' m2 ∧ r' ≤ r + 2
theorem hp_sc {xs : Nat → Int} {L : Nat} {i : Int} (h0 : 0 ≤ i) (h1 : i < (L : Int)) (F : Int → hRs) : hv_sc xs L i F = F (xs i.toNat) := by rw [hv_sc, if_pos ⟨h0, h1⟩]
section
variable {R : Int → hMem → hRs} {i : Int} {r : Nat} {m : hMem} {xs : Nat → Int} {L : Nat} {a1 a2 a3 a4 a5 : Int}
theorem k_0 {f g : hMem → hRs} (h : Res f g r m) : Nx R i r (hv_b (f m) (fun r1 m2 => hv_b (g m2) (fun r3 m4 => hv_eq r1 r3 (hv_set (i + 6) (fun y5 => R y5 m4)) (none)))) := by
  obtain ⟨v, m1, m2, S', r', f1, g1, hv, h1, h2, h3, h4⟩ := h
  exact ⟨m2, S', r', by rw [f1, hp_b, g1, hp_b, hp_eq_t hv hv rfl, hp_set], h1, h2, h3, h4⟩
theorem k_1 {f g : Int → hMem → hRs} (s1 : ∀ F, hv_sc xs L (i + 1) F = F a1) (h : Res (f a1) (g a1) r m) : Nx R i r (hv_sc xs L (i + 1) (fun v1 => hv_b (f v1 m) (fun r2 m3 => hv_sc xs L (i + 1) (fun v4 => hv_b (g v4 m3) (fun r5 m6 => hv_eq r2 r5 (hv_set (i + 6) (fun y7 => R y7 m6)) (none)))))) := by
  obtain ⟨v, m1, m2, S', r', f1, g1, hv, h1, h2, h3, h4⟩ := h
  exact ⟨m2, S', r', by rw [s1, f1, hp_b, s1, g1, hp_b, hp_eq_t hv hv rfl, hp_set], h1, h2, h3, h4⟩
theorem k_2 {f g : Int → Int → hMem → hRs} (s1 : ∀ F, hv_sc xs L (i + 1) F = F a1) (s2 : ∀ F, hv_sc xs L (i + 2) F = F a2) (h : Res (f a1 a2) (g a1 a2) r m) : Nx R i r (hv_sc xs L (i + 1) (fun v1 => hv_sc xs L (i + 2) (fun v2 => hv_b (f v1 v2 m) (fun r3 m4 => hv_sc xs L (i + 1) (fun v5 => hv_sc xs L (i + 2) (fun v6 => hv_b (g v5 v6 m4) (fun r7 m8 => hv_eq r3 r7 (hv_set (i + 6) (fun y9 => R y9 m8)) (none)))))))) := by
  obtain ⟨v, m1, m2, S', r', f1, g1, hv, h1, h2, h3, h4⟩ := h
  exact ⟨m2, S', r', by rw [s1, s2, f1, hp_b, s1, s2, g1, hp_b, hp_eq_t hv hv rfl, hp_set], h1, h2, h3, h4⟩
theorem k_3 {f g : Int → Int → Int → hMem → hRs} (s1 : ∀ F, hv_sc xs L (i + 1) F = F a1) (s2 : ∀ F, hv_sc xs L (i + 2) F = F a2) (s3 : ∀ F, hv_sc xs L (i + 3) F = F a3) (h : Res (f a1 a2 a3) (g a1 a2 a3) r m) : Nx R i r (hv_sc xs L (i + 1) (fun v1 => hv_sc xs L (i + 2) (fun v2 => hv_sc xs L (i + 3) (fun v3 => hv_b (f v1 v2 v3 m) (fun r4 m5 => hv_sc xs L (i + 1) (fun v6 => hv_sc xs L (i + 2) (fun v7 => hv_sc xs L (i + 3) (fun v8 => hv_b (g v6 v7 v8 m5) (fun r9 m10 => hv_eq r4 r9 (hv_set (i + 6) (fun y11 => R y11 m10)) (none)))))))))) := by
  obtain ⟨v, m1, m2, S', r', f1, g1, hv, h1, h2, h3, h4⟩ := h
  exact ⟨m2, S', r', by rw [s1, s2, s3, f1, hp_b, s1, s2, s3, g1, hp_b, hp_eq_t hv hv rfl, hp_set], h1, h2, h3, h4⟩
theorem k_5 {f g : Int → Int → Int → Int → Int → hMem → hRs} (s1 : ∀ F, hv_sc xs L (i + 1) F = F a1) (s2 : ∀ F, hv_sc xs L (i + 2) F = F a2) (s3 : ∀ F, hv_sc xs L (i + 3) F = F a3) (s4 : ∀ F, hv_sc xs L (i + 4) F = F a4) (s5 : ∀ F, hv_sc xs L (i + 5) F = F a5) (h : Res (f a1 a2 a3 a4 a5) (g a1 a2 a3 a4 a5) r m) : Nx R i r (hv_sc xs L (i + 1) (fun v1 => hv_sc xs L (i + 2) (fun v2 => hv_sc xs L (i + 3) (fun v3 => hv_sc xs L (i + 4) (fun v4 => hv_sc xs L (i + 5) (fun v5 => hv_b (f v1 v2 v3 v4 v5 m) (fun r6 m7 => hv_sc xs L (i + 1) (fun v8 => hv_sc xs L (i + 2) (fun v9 => hv_sc xs L (i + 3) (fun v10 => hv_sc xs L (i + 4) (fun v11 => hv_sc xs L (i + 5) (fun v12 => hv_b (g v8 v9 v10 v11 v12 m7) (fun r13 m14 => hv_eq r6 r13 (hv_set (i + 6) (fun y15 => R y15 m14)) (none)))))))))))))) := by
  obtain ⟨v, m1, m2, S', r', f1, g1, hv, h1, h2, h3, h4⟩ := h
  exact ⟨m2, S', r', by rw [s1, s2, s3, s4, s5, f1, hp_b, s1, s2, s3, s4, s5, g1, hp_b, hp_eq_t hv hv rfl, hp_set], h1, h2, h3, h4⟩
end
theorem sw_all {P : hRs → Prop} {x lo : Int} {As : List hRs} {D : hRs} (hx : hv_R32 x) (hA : ∀ t ∈ As, P t) (hD : P D) : P (hv_tsw x lo As D) := by
  unfold hv_tsw
  rw [if_pos hx]
  split
  · rename_i c
    have hl : (x - lo).toNat < As.length := by omega
    rw [List.getD_eq_getElem?_getD, List.getElem?_eq_getElem hl]
    exact hA _ (List.getElem_mem hl)
  · exact hD
theorem and63r (a : Int) : 0 ≤ hv_and a 63 ∧ hv_and a 63 < 64 := by
  unfold hv_and
  have e : (hv_I a &&& hv_I 63).toInt = ((hv_I a).toBitVec &&& 63#32).toInt := rfl
  have hn : ((hv_I a).toBitVec &&& 63#32).toNat ≤ 63 := by
    rw [BitVec.toNat_and]
    exact Nat.and_le_right
  rw [e, bv_toInt (by omega)]
  omega
theorem law_L {xs : Nat → Int} {L : Nat} (hL : L ≤ 3072) (hxs : ∀ j, hv_R32 (xs j)) : ∀ (n k : Nat) (S : hS) (r : Nat) (m : hMem), L + 6 ≤ 6 * (k + n) → 6 * k ≤ L + 5 → r ≤ 2 * k → AW S → CI S r m → RI S m → ∃ m', L_law xs L n ((6 * k : Nat) : Int) m = some (1, m')
  | 0, k, _, _, _, h1, h2, _, _, _, _ => by omega
  | n + 1, k, S, r, m, h1, h2, hr, hA, hC, hR => by
    show ∃ m', B_law xs L (L_law xs L n) ((6 * k : Nat) : Int) m = some (1, m')
    unfold B_law
    by_cases c : (L : Int) - 6 < ((6 * k : Nat) : Int)
    · rw [hp_lt_t (by omega) (by omega) c]
      exact ⟨m, rfl⟩
    · rw [hp_lt_f (by omega) (by omega) (by omega), hp_sc (by omega) (by omega)]
      have s1 : ∀ F, hv_sc xs L (((6 * k : Nat) : Int) + 1) F = F (xs (((6 * k : Nat) : Int) + 1).toNat) := hp_sc (by omega) (by omega)
      have s2 : ∀ F, hv_sc xs L (((6 * k : Nat) : Int) + 2) F = F (xs (((6 * k : Nat) : Int) + 2).toNat) := hp_sc (by omega) (by omega)
      have s3 : ∀ F, hv_sc xs L (((6 * k : Nat) : Int) + 3) F = F (xs (((6 * k : Nat) : Int) + 3).toNat) := hp_sc (by omega) (by omega)
      have s4 : ∀ F, hv_sc xs L (((6 * k : Nat) : Int) + 4) F = F (xs (((6 * k : Nat) : Int) + 4).toNat) := hp_sc (by omega) (by omega)
      have s5 : ∀ F, hv_sc xs L (((6 * k : Nat) : Int) + 5) F = F (xs (((6 * k : Nat) : Int) + 5).toNat) := hp_sc (by omega) (by omega)
      have ar := and63r (xs ((6 * k : Nat) : Int).toNat)
      have r9 : r < 99000 := by omega
      have c_feed : Nx (L_law xs L n) ((6 * k : Nat) : Int) r (K_law_212 xs L (L_law xs L n) ((6 * k : Nat) : Int) m) := k_5 (f := f_X10_feed) (g := f_X11_feed) s1 s2 s3 s4 s5 (op_feed hA hC hR _ _ _ _ _)
      have c_end : Nx (L_law xs L n) ((6 * k : Nat) : Int) r (K_law_275 xs L (L_law xs L n) ((6 * k : Nat) : Int) m) := k_1 (f := f_X10_end) (g := f_X11_end) s1 (op_end hA hC hR (hxs _))
      have c_plan : Nx (L_law xs L n) ((6 * k : Nat) : Int) r (K_law_298 xs L (L_law xs L n) ((6 * k : Nat) : Int) m) := k_0 (f := f_X10_plan) (g := f_X11_plan) (op_plan hA hC hR)
      have c_fault : Nx (L_law xs L n) ((6 * k : Nat) : Int) r (K_law_311 xs L (L_law xs L n) ((6 * k : Nat) : Int) m) := k_1 (f := f_X10_fault) (g := f_X11_fault) s1 (op_fault hA hC hR (hxs _))
      have c_count : Nx (L_law xs L n) ((6 * k : Nat) : Int) r (K_law_334 xs L (L_law xs L n) ((6 * k : Nat) : Int) m) := k_1 (f := f_X10_count) (g := f_X11_count) s1 (op_count hA hC hR (hxs _))
      have c_version : Nx (L_law xs L n) ((6 * k : Nat) : Int) r (K_law_357 xs L (L_law xs L n) ((6 * k : Nat) : Int) m) := k_2 (f := f_X10_version) (g := f_X11_version) s1 s2 (op_version hA hC hR (hxs _) (hxs _))
      have c_job : Nx (L_law xs L n) ((6 * k : Nat) : Int) r (K_law_390 xs L (L_law xs L n) ((6 * k : Nat) : Int) m) := k_2 (f := f_X10_job) (g := f_X11_job) s1 s2 (op_job hA hC hR (hxs _) (hxs _))
      have c_size : Nx (L_law xs L n) ((6 * k : Nat) : Int) r (K_law_423 xs L (L_law xs L n) ((6 * k : Nat) : Int) m) := k_1 (f := f_X10_size) (g := f_X11_size) s1 (op_size hA hC hR (hxs _))
      have c_least : Nx (L_law xs L n) ((6 * k : Nat) : Int) r (K_law_446 xs L (L_law xs L n) ((6 * k : Nat) : Int) m) := k_1 (f := f_X10_least) (g := f_X11_least) s1 (op_least hA hC hR (hxs _))
      have c_place : Nx (L_law xs L n) ((6 * k : Nat) : Int) r (K_law_469 xs L (L_law xs L n) ((6 * k : Nat) : Int) m) := k_2 (f := f_X10_place) (g := f_X11_place) s1 s2 (op_place hA hC hR (hxs _) (hxs _))
      have c_times : Nx (L_law xs L n) ((6 * k : Nat) : Int) r (K_law_502 xs L (L_law xs L n) ((6 * k : Nat) : Int) m) := k_2 (f := f_X10_times) (g := f_X11_times) s1 s2 (op_times hA hC hR (hxs _) (hxs _))
      have c_trees : Nx (L_law xs L n) ((6 * k : Nat) : Int) r (K_law_535 xs L (L_law xs L n) ((6 * k : Nat) : Int) m) := k_1 (f := f_X10_trees) (g := f_X11_trees) s1 (op_trees hA hC hR (hxs _))
      have c_rank : Nx (L_law xs L n) ((6 * k : Nat) : Int) r (K_law_558 xs L (L_law xs L n) ((6 * k : Nat) : Int) m) := k_2 (f := f_X10_rank) (g := f_X11_rank) s1 s2 (op_rank hA hC hR (hxs _) (hxs _))
      have c_holds : Nx (L_law xs L n) ((6 * k : Nat) : Int) r (K_law_591 xs L (L_law xs L n) ((6 * k : Nat) : Int) m) := k_2 (f := f_X10_holds) (g := f_X11_holds) s1 s2 (op_holds hA hC hR (hxs _) (hxs _))
      have c_singles : Nx (L_law xs L n) ((6 * k : Nat) : Int) r (K_law_624 xs L (L_law xs L n) ((6 * k : Nat) : Int) m) := k_2 (f := f_X10_singles) (g := f_X11_singles) s1 s2 (op_singles hA hC hR (hxs _) (hxs _))
      have c_head : Nx (L_law xs L n) ((6 * k : Nat) : Int) r (K_law_657 xs L (L_law xs L n) ((6 * k : Nat) : Int) m) := k_2 (f := f_X10_head) (g := f_X11_head) s1 s2 (op_head hA hC hR (hxs _) (hxs _))
      have c_depth : Nx (L_law xs L n) ((6 * k : Nat) : Int) r (K_law_690 xs L (L_law xs L n) ((6 * k : Nat) : Int) m) := k_1 (f := f_X10_depth) (g := f_X11_depth) s1 (op_depth hA hC hR (hxs _))
      have c_parts : Nx (L_law xs L n) ((6 * k : Nat) : Int) r (K_law_713 xs L (L_law xs L n) ((6 * k : Nat) : Int) m) := k_1 (f := f_X10_parts) (g := f_X11_parts) s1 (op_parts hA hC hR r9 (hxs _))
      have c_own : Nx (L_law xs L n) ((6 * k : Nat) : Int) r (K_law_736 xs L (L_law xs L n) ((6 * k : Nat) : Int) m) := k_1 (f := f_X10_own) (g := f_X11_own) s1 (op_own hA hC hR r9 (hxs _))
      have c_shared : Nx (L_law xs L n) ((6 * k : Nat) : Int) r (K_law_759 xs L (L_law xs L n) ((6 * k : Nat) : Int) m) := k_2 (f := f_X10_shared) (g := f_X11_shared) s1 s2 (op_shared hA hC hR r9 (hxs _) (hxs _))
      have c_links : Nx (L_law xs L n) ((6 * k : Nat) : Int) r (K_law_792 xs L (L_law xs L n) ((6 * k : Nat) : Int) m) := k_1 (f := f_X10_links) (g := f_X11_links) s1 (op_links hA hC hR (hxs _))
      have c_all : Nx (L_law xs L n) ((6 * k : Nat) : Int) r (K_law_815 xs L (L_law xs L n) ((6 * k : Nat) : Int) m) := k_0 (f := f_X10_all) (g := f_X11_all) (op_all hA hC hR)
      have c_by : Nx (L_law xs L n) ((6 * k : Nat) : Int) r (K_law_828 xs L (L_law xs L n) ((6 * k : Nat) : Int) m) := k_2 (f := f_X10_by) (g := f_X11_by) s1 s2 (op_by hA hC hR (hxs _) (hxs _))
      have c_lean : Nx (L_law xs L n) ((6 * k : Nat) : Int) r (K_law_861 xs L (L_law xs L n) ((6 * k : Nat) : Int) m) := k_0 (f := f_X10_lean) (g := f_X11_lean) (op_lean hA hC hR)
      have c_drain : Nx (L_law xs L n) ((6 * k : Nat) : Int) r (K_law_874 xs L (L_law xs L n) ((6 * k : Nat) : Int) m) := k_1 (f := f_X10_drain) (g := f_X11_drain) s1 (op_drain hA hC hR (hxs _))
      have c_dearest : Nx (L_law xs L n) ((6 * k : Nat) : Int) r (K_law_897 xs L (L_law xs L n) ((6 * k : Nat) : Int) m) := k_1 (f := f_X10_dearest) (g := f_X11_dearest) s1 (op_dearest hA hC hR (hxs _))
      have c_same : Nx (L_law xs L n) ((6 * k : Nat) : Int) r (K_law_920 xs L (L_law xs L n) ((6 * k : Nat) : Int) m) := k_2 (f := f_X10_same) (g := f_X11_same) s1 s2 (op_same hA hC hR (hxs _) (hxs _))
      have c_more : Nx (L_law xs L n) ((6 * k : Nat) : Int) r (K_law_953 xs L (L_law xs L n) ((6 * k : Nat) : Int) m) := k_2 (f := f_X10_more) (g := f_X11_more) s1 s2 (op_more hA hC hR (hxs _) (hxs _))
      have c_from : Nx (L_law xs L n) ((6 * k : Nat) : Int) r (K_law_986 xs L (L_law xs L n) ((6 * k : Nat) : Int) m) := k_2 (f := f_X10_from) (g := f_X11_from) s1 s2 (op_from hA hC hR (hxs _) (hxs _))
      have c_roots : Nx (L_law xs L n) ((6 * k : Nat) : Int) r (K_law_1019 xs L (L_law xs L n) ((6 * k : Nat) : Int) m) := k_1 (f := f_X10_roots) (g := f_X11_roots) s1 (op_roots hA hC hR (hxs _))
      have c_without : Nx (L_law xs L n) ((6 * k : Nat) : Int) r (K_law_1042 xs L (L_law xs L n) ((6 * k : Nat) : Int) m) := k_2 (f := f_X10_without) (g := f_X11_without) s1 s2 (op_without hA hC hR (hxs _) (hxs _))
      have c_left : Nx (L_law xs L n) ((6 * k : Nat) : Int) r (K_law_1075 xs L (L_law xs L n) ((6 * k : Nat) : Int) m) := k_2 (f := f_X10_left) (g := f_X11_left) s1 s2 (op_left hA hC hR (hxs _) (hxs _))
      have c_done : Nx (L_law xs L n) ((6 * k : Nat) : Int) r (K_law_1108 xs L (L_law xs L n) ((6 * k : Nat) : Int) m) := k_2 (f := f_X10_done) (g := f_X11_done) s1 s2 (op_done hA hC hR (hxs _) (hxs _))
      have c_hand : Nx (L_law xs L n) ((6 * k : Nat) : Int) r (K_law_1141 xs L (L_law xs L n) ((6 * k : Nat) : Int) m) := k_2 (f := f_X10_hand) (g := f_X11_hand) s1 s2 (op_hand hA hC hR (hxs _) (hxs _))
      have c_ends : Nx (L_law xs L n) ((6 * k : Nat) : Int) r (K_law_1174 xs L (L_law xs L n) ((6 * k : Nat) : Int) m) := k_2 (f := f_X10_ends) (g := f_X11_ends) s1 s2 (op_ends hA hC hR (hxs _) (hxs _))
      have c_hands : Nx (L_law xs L n) ((6 * k : Nat) : Int) r (K_law_1207 xs L (L_law xs L n) ((6 * k : Nat) : Int) m) := k_1 (f := f_X10_hands) (g := f_X11_hands) s1 (op_hands hA hC hR (hxs _))
      have c_puts : Nx (L_law xs L n) ((6 * k : Nat) : Int) r (K_law_1230 xs L (L_law xs L n) ((6 * k : Nat) : Int) m) := k_3 (f := f_X10_puts) (g := f_X11_puts) s1 s2 s3 (op_puts hA hC hR (hxs _) (hxs _) (hxs _))
      have c_joins : Nx (L_law xs L n) ((6 * k : Nat) : Int) r (K_law_1273 xs L (L_law xs L n) ((6 * k : Nat) : Int) m) := k_2 (f := f_X10_joins) (g := f_X11_joins_) s1 s2 (op_joins hA hC hR (hxs _) (hxs _))
      have c_takes : Nx (L_law xs L n) ((6 * k : Nat) : Int) r (K_law_1306 xs L (L_law xs L n) ((6 * k : Nat) : Int) m) := k_1 (f := f_X10_takes) (g := f_X11_takes_) s1 (op_takes hA hC hR (hxs _))
      have c_undo : Nx (L_law xs L n) ((6 * k : Nat) : Int) r (K_law_1329 xs L (L_law xs L n) ((6 * k : Nat) : Int) m) := k_0 (f := f_X10_undo) (g := f_X11_undo) (op_undo hA hC hR)
      have c_anew : Nx (L_law xs L n) ((6 * k : Nat) : Int) r (K_law_1342 xs L (L_law xs L n) ((6 * k : Nat) : Int) m) := k_0 (f := f_X10_anew) (g := f_X11_anew) (op_anew hA hC hR)
      have dflt : Nx (L_law xs L n) ((6 * k : Nat) : Int) r (hv_set (((6 * k : Nat) : Int) + 6) (fun y2 => L_law xs L n y2 m)) := ⟨m, S, r, hp_set, hA, hC, hR, by omega⟩
      have all : Nx (L_law xs L n) ((6 * k : Nat) : Int) r (hv_tsw (hv_and (xs ((6 * k : Nat) : Int).toNat) 63) 0 [K_law_212 xs L (L_law xs L n) ((6 * k : Nat) : Int) m, K_law_275 xs L (L_law xs L n) ((6 * k : Nat) : Int) m, K_law_298 xs L (L_law xs L n) ((6 * k : Nat) : Int) m, K_law_311 xs L (L_law xs L n) ((6 * k : Nat) : Int) m, K_law_334 xs L (L_law xs L n) ((6 * k : Nat) : Int) m, K_law_357 xs L (L_law xs L n) ((6 * k : Nat) : Int) m, K_law_390 xs L (L_law xs L n) ((6 * k : Nat) : Int) m, K_law_423 xs L (L_law xs L n) ((6 * k : Nat) : Int) m, K_law_446 xs L (L_law xs L n) ((6 * k : Nat) : Int) m, K_law_469 xs L (L_law xs L n) ((6 * k : Nat) : Int) m, K_law_502 xs L (L_law xs L n) ((6 * k : Nat) : Int) m, K_law_535 xs L (L_law xs L n) ((6 * k : Nat) : Int) m, K_law_558 xs L (L_law xs L n) ((6 * k : Nat) : Int) m, K_law_591 xs L (L_law xs L n) ((6 * k : Nat) : Int) m, K_law_624 xs L (L_law xs L n) ((6 * k : Nat) : Int) m, K_law_657 xs L (L_law xs L n) ((6 * k : Nat) : Int) m, K_law_690 xs L (L_law xs L n) ((6 * k : Nat) : Int) m, K_law_713 xs L (L_law xs L n) ((6 * k : Nat) : Int) m, K_law_736 xs L (L_law xs L n) ((6 * k : Nat) : Int) m, K_law_759 xs L (L_law xs L n) ((6 * k : Nat) : Int) m, K_law_792 xs L (L_law xs L n) ((6 * k : Nat) : Int) m, K_law_815 xs L (L_law xs L n) ((6 * k : Nat) : Int) m, K_law_828 xs L (L_law xs L n) ((6 * k : Nat) : Int) m, K_law_861 xs L (L_law xs L n) ((6 * k : Nat) : Int) m, K_law_874 xs L (L_law xs L n) ((6 * k : Nat) : Int) m, K_law_897 xs L (L_law xs L n) ((6 * k : Nat) : Int) m, K_law_920 xs L (L_law xs L n) ((6 * k : Nat) : Int) m, K_law_953 xs L (L_law xs L n) ((6 * k : Nat) : Int) m, K_law_986 xs L (L_law xs L n) ((6 * k : Nat) : Int) m, K_law_1019 xs L (L_law xs L n) ((6 * k : Nat) : Int) m, K_law_1042 xs L (L_law xs L n) ((6 * k : Nat) : Int) m, K_law_1075 xs L (L_law xs L n) ((6 * k : Nat) : Int) m, K_law_1108 xs L (L_law xs L n) ((6 * k : Nat) : Int) m, K_law_1141 xs L (L_law xs L n) ((6 * k : Nat) : Int) m, K_law_1174 xs L (L_law xs L n) ((6 * k : Nat) : Int) m, K_law_1207 xs L (L_law xs L n) ((6 * k : Nat) : Int) m, K_law_1230 xs L (L_law xs L n) ((6 * k : Nat) : Int) m, K_law_1273 xs L (L_law xs L n) ((6 * k : Nat) : Int) m, K_law_1306 xs L (L_law xs L n) ((6 * k : Nat) : Int) m, K_law_1329 xs L (L_law xs L n) ((6 * k : Nat) : Int) m, K_law_1342 xs L (L_law xs L n) ((6 * k : Nat) : Int) m] (hv_set (((6 * k : Nat) : Int) + 6) (fun y2 => L_law xs L n y2 m))) := sw_all (by omega) (List.forall_mem_cons.mpr ⟨c_feed, List.forall_mem_cons.mpr ⟨c_end, List.forall_mem_cons.mpr ⟨c_plan, List.forall_mem_cons.mpr ⟨c_fault, List.forall_mem_cons.mpr ⟨c_count, List.forall_mem_cons.mpr ⟨c_version, List.forall_mem_cons.mpr ⟨c_job, List.forall_mem_cons.mpr ⟨c_size, List.forall_mem_cons.mpr ⟨c_least, List.forall_mem_cons.mpr ⟨c_place, List.forall_mem_cons.mpr ⟨c_times, List.forall_mem_cons.mpr ⟨c_trees, List.forall_mem_cons.mpr ⟨c_rank, List.forall_mem_cons.mpr ⟨c_holds, List.forall_mem_cons.mpr ⟨c_singles, List.forall_mem_cons.mpr ⟨c_head, List.forall_mem_cons.mpr ⟨c_depth, List.forall_mem_cons.mpr ⟨c_parts, List.forall_mem_cons.mpr ⟨c_own, List.forall_mem_cons.mpr ⟨c_shared, List.forall_mem_cons.mpr ⟨c_links, List.forall_mem_cons.mpr ⟨c_all, List.forall_mem_cons.mpr ⟨c_by, List.forall_mem_cons.mpr ⟨c_lean, List.forall_mem_cons.mpr ⟨c_drain, List.forall_mem_cons.mpr ⟨c_dearest, List.forall_mem_cons.mpr ⟨c_same, List.forall_mem_cons.mpr ⟨c_more, List.forall_mem_cons.mpr ⟨c_from, List.forall_mem_cons.mpr ⟨c_roots, List.forall_mem_cons.mpr ⟨c_without, List.forall_mem_cons.mpr ⟨c_left, List.forall_mem_cons.mpr ⟨c_done, List.forall_mem_cons.mpr ⟨c_hand, List.forall_mem_cons.mpr ⟨c_ends, List.forall_mem_cons.mpr ⟨c_hands, List.forall_mem_cons.mpr ⟨c_puts, List.forall_mem_cons.mpr ⟨c_joins, List.forall_mem_cons.mpr ⟨c_takes, List.forall_mem_cons.mpr ⟨c_undo, List.forall_mem_cons.mpr ⟨c_anew, (fun t ht => by cases ht)⟩⟩⟩⟩⟩⟩⟩⟩⟩⟩⟩⟩⟩⟩⟩⟩⟩⟩⟩⟩⟩⟩⟩⟩⟩⟩⟩⟩⟩⟩⟩⟩⟩⟩⟩⟩⟩⟩⟩⟩⟩) dflt
      obtain ⟨m2, S', r', e, a1, a2, a3, a4⟩ := all
      obtain ⟨m', b1⟩ := law_L hL hxs n (k + 1) S' r' m2 (by omega) (by omega) (by omega) a1 a2 a3
      refine ⟨m', Eq.trans e ?_⟩
      rw [show ((6 * k : Nat) : Int) + 6 = ((6 * (k + 1) : Nat) : Int) by omega]
      exact b1
def S0 : hS := ((0, 0, 0, 0), [], [], (0, -1))
theorem aw_0 : AW S0 := ⟨⟨⟨Nat.zero_le _, fun n v hv => by simp [s_vs, S0] at hv⟩, Nat.zero_le _, Nat.zero_le _, Nat.le_refl _, Nat.zero_le _, Nat.zero_le _, fun _ => rfl, fun h => absurd h (Nat.lt_irrefl _), Nat.zero_le _, (fun x hx => by cases hx), by decide, by decide⟩, by decide, by decide⟩
theorem hr_0 {b law : Nat} (e0 : hv_m0 b 0 = (law : Int)) (e7 : hv_m0 b 7 = 0) (e9 : hv_m0 (b + 1) 9 = 1) (e10 : hv_m0 (b + 1) 10 = 1) (ez : ∀ k, 2 ≤ k → k ≤ 10 → ∀ j, hv_m0 (b + k) j = 0) : HR b law [] (fun _ => 1) hv_m0 := by
  refine ⟨e0, e7, e9, e10, fun n hn => ⟨?_, by show 1 ≤ 1 + 46 * n; omega⟩, fun _ _ _ _ => Nat.le_refl _, fun j hj => by simp at hj⟩
  have ea : (h_all law 99 (([] : List hVr).take n)).1 = [n_0] := by rw [List.take_nil]; rfl
  rw [ea]
  refine ⟨Nat.le_refl _, Nat.le_refl _, by simp, by show 1 ≤ 2592; omega, ez 9 (by omega) (by omega) 0, ez 10 (by omega) (by omega) 0, rfl, fun a ha => ?_⟩
  have a0 : a = 0 := by simp at ha; exact ha
  subst a0
  exact ⟨ez 2 (by omega) (by omega) 0, ez 3 (by omega) (by omega) 0, ez 4 (by omega) (by omega) 0, ez 5 (by omega) (by omega) 0, ez 6 (by omega) (by omega) 0, ez 7 (by omega) (by omega) 0, ez 8 (by omega) (by omega) 0⟩
theorem ez_0 (b : Nat) (hb : b = 26 ∨ b = 42) : ∀ k, 2 ≤ k → k ≤ 10 → ∀ j, hv_m0 (b + k) j = 0 := by
  intro k k1 k2 j
  have hk : k = 2 ∨ k = 3 ∨ k = 4 ∨ k = 5 ∨ k = 6 ∨ k = 7 ∨ k = 8 ∨ k = 9 ∨ k = 10 := by omega
  rcases hb with e | e <;> subst e <;> rcases hk with e | e | e | e | e | e | e | e | e <;> subst e <;> rfl
theorem ci_0 : CI S0 0 hv_m0 := by
  refine ⟨rfl, rfl, rfl, rfl, ⟨fun _ => 1, fun _ => 1, ⟨rfl, fun j k c hj => by simp [jl, s_vs, S0] at hj⟩, ⟨rfl, fun j v hj => by simp [s_vs, S0] at hj, fun j hj => by simp [s_vs, S0] at hj⟩, fun j hj => by simp [s_vs, S0] at hj, hr_0 rfl rfl rfl rfl (ez_0 26 (Or.inl rfl)), hr_0 rfl rfl rfl rfl (ez_0 42 (Or.inr rfl))⟩, ⟨rfl, Nat.zero_le _, fun i hi => by simp [s_bs, S0] at hi, (fun x hx => by cases hx)⟩, rfl, rfl, fun j _ => ?_, rfl, fun c _ => ?_⟩
  · show hv_R32 0
    decide
  · exact ⟨Int.le_refl _, Int.le_refl _⟩
theorem ri_0 : RI S0 hv_m0 := ⟨rfl, rfl, rfl, rfl, ⟨rfl, rfl, fun j v hj => by simp [s_vs, S0] at hj, fun j k c hj => by simp [jl, s_vs, S0] at hj⟩, ⟨rfl, fun i hi => by simp [s_bs, S0] at hi⟩, rfl, rfl⟩
theorem hp_law (xs : Nat → Int32) (L : Nat) (hL : L ≤ 3072) : ∃ (r : Int) (m' : hMem), L_law (fun j => (xs j).toInt) L 600 0 hv_m0 = some (r, m') := by
  obtain ⟨m', h⟩ := law_L (xs := fun j => (xs j).toInt) hL (fun j => by
    have h1 := Int32.toInt_lt (xs j)
    have h2 := Int32.le_toInt (xs j)
    unfold hv_R32
    omega) 600 0 S0 0 hv_m0 (by omega) (by omega) (by omega) aw_0 ci_0 ri_0
  exact ⟨1, m', h⟩
