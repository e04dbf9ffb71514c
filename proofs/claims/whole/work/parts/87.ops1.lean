/-! calls on both: text, plan, versions, jobs, bags -/
section
variable {S : hS} {r : Nat} {m : hMem}
theorem by4_lt (x : Int) : ∀ y ∈ by4 x, y < 256 := fun y hy => by
  have h : ∀ s, by1 x s < 256 := fun s => (by1_lt x s).1
  unfold by4 at hy
  simp only [List.mem_cons, List.not_mem_nil, or_false] at hy
  rcases hy with e | e | e | e <;> rw [e] <;> exact h _
theorem op_feed (hA : AW S) (hC : CI S r m) (hR : RI S m) (x1 x2 x3 x4 x5 : Int) : Res (f_X10_feed x1 x2 x3 x4 x5) (f_X11_feed x1 x2 x3 x4 x5) r m := by
  by_cases c : 580 < (s_bs S).length
  · refine ask hA hR (same_c hC ((c_feed hC x1 x2 x3 x4 x5).1 c)) (same_r (fun m hm => (r_feed hA.1 hm x1 x2 x3 x4 x5).1 c)) (by decide)
  · obtain ⟨m1, a1, a2, a3⟩ := (c_feed hC x1 x2 x3 x4 x5).2 (by omega)
    obtain ⟨m2, b1, b2, b3⟩ := (r_feed hA.1 (hR.fc a3) x1 x2 x3 x4 x5).2 (by omega)
    refine ⟨_, m1, m2, _, r, a1, b1, by omega, ?_, a2.fr b3, b2, by omega⟩
    obtain ⟨⟨v1, v2, v3, v4, v5, v6, v7, v8, v9, v10, v11, v12⟩, v13, v14⟩ := hA
    refine ⟨⟨v1, v2, v3, v4, v5, v6, v7, v8, ?_, fun y hy => ?_, v11, v12⟩, v13, v14⟩
    · show (s_bs S ++ (by4 x1 ++ by4 x2 ++ by4 x3 ++ by4 x4 ++ by4 x5)).length ≤ 600
      have b4 : ∀ x, (by4 x).length = 4 := fun x => rfl
      simp only [List.length_append, b4]
      omega
    · have hy : y ∈ s_bs S ++ (by4 x1 ++ by4 x2 ++ by4 x3 ++ by4 x4 ++ by4 x5) := hy
      simp only [List.mem_append] at hy
      rcases hy with e | (((e | e) | e) | e) | e
      · exact v10 y e
      · exact by4_lt _ y e
      · exact by4_lt _ y e
      · exact by4_lt _ y e
      · exact by4_lt _ y e
      · exact by4_lt _ y e
theorem op_end (hA : AW S) (hC : CI S r m) (hR : RI S m) {x : Int} (hx : hv_R32 x) : Res (f_X10_end x) (f_X11_end x) r m := by
  by_cases c : 0 ≤ x ∧ x ≤ ((s_bs S).length : Int)
  · obtain ⟨m1, a1, a2, a3⟩ := (c_end hC hx).2 c
    obtain ⟨m2, b1, b2, b3⟩ := (r_end hA.1 (hR.fc a3) hx).2 c
    refine ⟨_, m1, m2, _, r, a1, b1, hx, ?_, a2.fr b3, b2, by omega⟩
    obtain ⟨⟨v1, v2, v3, v4, v5, v6, v7, v8, v9, v10, v11, v12⟩, v13, v14⟩ := hA
    refine ⟨⟨v1, v2, v3, v4, v5, v6, v7, v8, ?_, fun y hy => v10 y (List.mem_of_mem_take hy), v11, v12⟩, v13, v14⟩
    show ((s_bs S).take x.toNat).length ≤ 600
    rw [List.length_take]
    omega
  · exact ask hA hR (same_c hC ((c_end hC hx).1 c)) (same_r (fun m hm => (r_end hA.1 hm hx).1 c)) (by decide)
theorem op_plan (hA : AW S) (hC : CI S r m) (hR : RI S m) : Res f_X10_plan f_X11_plan r m := by
  have b6 := hA.1.2.2.2.2.2.2.2.2.1
  cases e : e_all (s_bs S) with
  | ok q =>
    obtain ⟨li, la, ha, vs⟩ := q
    obtain ⟨m1, a1, a2, a3⟩ := (c_plan hA.1 hC).1 li la ha vs e
    obtain ⟨m2, b1, b2, b3⟩ := (r_plan hA.1 (hR.fc a3)).1 li la ha vs e
    obtain ⟨w1, w2, w3, w4, w5, w6, w7⟩ := all_spec b6 e
    refine ⟨_, m1, m2, _, r, a1, b1, by omega, ?_, a2.fr b3, b2, by omega⟩
    refine ⟨⟨w1, w3, w4, Nat.le_refl _, w2, w7, fun h => (w5 h).1, w6, Nat.zero_le _, (fun y hy => by cases hy), by show (0 : Int) ≤ 0; omega, by show (0 : Int) ≤ 3; omega⟩, by show (-1 : Int) ≤ -1; omega, by show (-1 : Int) ≤ 600; omega⟩
  | error f =>
    obtain ⟨f0, m1, a1, a2, a3⟩ := (c_plan hA.1 hC).2 f e
    obtain ⟨m2, b1, b2, b3⟩ := (r_plan hA.1 (hR.fc a3)).2 f e
    have ee : Ee (s_bs S) f := run_ee _ _ _ _ _ _ e
    obtain ⟨⟨e1, e2⟩, q, e3⟩ := ee
    have e3' : 0 ≤ f.2 ∧ f.2 ≤ 600 := by rw [e3]; unfold pl; omega
    refine ⟨_, m1, m2, _, r, a1, b1, by decide, ?_, a2.fr b3, b2, by omega⟩
    obtain ⟨⟨v1, v2, v3, v4, v5, v6, v7, v8, v9, v10, v11, v12⟩, v13, v14⟩ := hA
    exact ⟨⟨v1, v2, v3, v4, v5, v6, v7, v8, Nat.zero_le _, (fun y hy => by cases hy), by show 0 ≤ f.1; omega, by show f.1 ≤ 3; omega⟩, by show -1 ≤ f.2; omega, by show f.2 ≤ 600; omega⟩
theorem op_fault (hA : AW S) (hC : CI S r m) (hR : RI S m) {x : Int} (hx : hv_R32 x) : Res (f_X10_fault x) (f_X11_fault x) r m := by
  obtain ⟨⟨v1, v2, v3, v4, v5, v6, v7, v8, v9, v10, v11, v12⟩, v13, v14⟩ := id hA
  obtain ⟨-, -, -, -, -, -, i7, i8, -⟩ := id hC
  refine ask (v := if x = 0 then (s_ff S).1 else if x = 1 then (s_ff S).2 else -1) hA hR (same_c hC ?_) (same_r (fun m hm => ?_)) (by split <;> (try split) <;> omega)
  · unfold f_X10_fault f_X4_faultFound f_X4_faultPlace
    rw [i7, i8]
    by_cases c0 : x = 0
    · rw [hp_eq_t hx (by decide) c0, if_pos c0]; rfl
    · rw [hp_eq_f hx (by decide) (by omega), if_neg c0]
      by_cases c1 : x = 1
      · rw [hp_eq_t hx (by decide) c1, if_pos c1]; rfl
      · rw [hp_eq_f hx (by decide) (by omega), if_neg c1]; rfl
  · obtain ⟨-, -, -, -, -, -, h7, h8⟩ := hm
    unfold f_X11_fault
    rw [h7, h8]
    by_cases c0 : x = 0
    · rw [hp_eq_t hx (by decide) c0, if_pos c0]; rfl
    · rw [hp_eq_f hx (by decide) (by omega), if_neg c0]
      by_cases c1 : x = 1
      · rw [hp_eq_t hx (by decide) c1, if_pos c1]; rfl
      · rw [hp_eq_f hx (by decide) (by omega), if_neg c1]; rfl
def cn_v (S : hS) (x : Int) : Int := if x = 0 then (s_la S : Int) else if x = 1 then (s_ha S : Int) else if x = 2 then ((s_vs S).length : Int) else if x = 3 then (nput (s_vs S) : Int) else if x = 4 then (s_to S : Int) else if x = 5 then ((s_vs S).length : Int) - (s_to S : Int) else if x = 6 then (s_li S : Int) else if x = 7 then ((s_bs S).length : Int) else -1
theorem gd8 {α : Type} (a0 a1 a2 a3 a4 a5 a6 a7 d : α) : ([a0, a1, a2, a3, a4, a5, a6, a7].getD 0 d = a0 ∧ [a0, a1, a2, a3, a4, a5, a6, a7].getD 1 d = a1 ∧ [a0, a1, a2, a3, a4, a5, a6, a7].getD 2 d = a2 ∧ [a0, a1, a2, a3, a4, a5, a6, a7].getD 3 d = a3) ∧ [a0, a1, a2, a3, a4, a5, a6, a7].getD 4 d = a4 ∧ [a0, a1, a2, a3, a4, a5, a6, a7].getD 5 d = a5 ∧ [a0, a1, a2, a3, a4, a5, a6, a7].getD 6 d = a6 ∧ [a0, a1, a2, a3, a4, a5, a6, a7].getD 7 d = a7 := ⟨⟨rfl, rfl, rfl, rfl⟩, rfl, rfl, rfl, rfl⟩
theorem sw8 {x : Int} (hx : hv_R32 x) {a0 a1 a2 a3 a4 a5 a6 a7 d : Int} {m : hMem} : hv_tsw x 0 [some (a0, m), some (a1, m), some (a2, m), some (a3, m), some (a4, m), some (a5, m), some (a6, m), some (a7, m)] (some (d, m)) = some ((if x = 0 then a0 else if x = 1 then a1 else if x = 2 then a2 else if x = 3 then a3 else if x = 4 then a4 else if x = 5 then a5 else if x = 6 then a6 else if x = 7 then a7 else d), m) := by
  have g := gd8 (some (a0, m)) (some (a1, m)) (some (a2, m)) (some (a3, m)) (some (a4, m)) (some (a5, m)) (some (a6, m)) (some (a7, m)) (some (d, m))
  by_cases c0 : x = 0
  · rw [hp_tsw (i := 0) hx (by omega) (by simp), if_pos c0, g.1.1]
  · rw [if_neg c0]
    by_cases c1 : x = 1
    · rw [hp_tsw (i := 1) hx (by omega) (by simp), if_pos c1, g.1.2.1]
    · rw [if_neg c1]
      by_cases c2 : x = 2
      · rw [hp_tsw (i := 2) hx (by omega) (by simp), if_pos c2, g.1.2.2.1]
      · rw [if_neg c2]
        by_cases c3 : x = 3
        · rw [hp_tsw (i := 3) hx (by omega) (by simp), if_pos c3, g.1.2.2.2]
        · rw [if_neg c3]
          by_cases c4 : x = 4
          · rw [hp_tsw (i := 4) hx (by omega) (by simp), if_pos c4, g.2.1]
          · rw [if_neg c4]
            by_cases c5 : x = 5
            · rw [hp_tsw (i := 5) hx (by omega) (by simp), if_pos c5, g.2.2.1]
            · rw [if_neg c5]
              by_cases c6 : x = 6
              · rw [hp_tsw (i := 6) hx (by omega) (by simp), if_pos c6, g.2.2.2.1]
              · rw [if_neg c6]
                by_cases c7 : x = 7
                · rw [hp_tsw (i := 7) hx (by omega) (by simp), if_pos c7, g.2.2.2.2]
                · rw [if_neg c7, hp_tsw_d hx (by simp; omega)]
theorem op_count (hA : AW S) (hC : CI S r m) (hR : RI S m) {x : Int} (hx : hv_R32 x) : Res (f_X10_count x) (f_X11_count x) r m := by
  obtain ⟨⟨v1, v2, v3, v4, v5, v6, v7, v8, v9, v10, v11, v12⟩, v13, v14⟩ := id hA
  have h30 := v1.1
  have nn := nput_le (s_vs S)
  obtain ⟨i1, i2, i3, i4, -, i6, -⟩ := id hC
  refine ask (v := cn_v S x) hA hR (same_c hC ?_) (same_r (fun m hm => ?_)) ?_
  · unfold f_X10_count
    rw [ci_vs hC, hp_b, hp_b, t_len i6, hp_b, i1, i2, i3, i4, show f_X3_known m = some ((nput (s_vs S) : Int), m) by unfold f_X3_known; rw [(ci_jobs hC).1]; rfl, hp_b]
    exact sw8 hx
  · obtain ⟨h1, h2, h3, h4, h5, h6, -⟩ := hm
    have g : ∀ (i : Int) (k : Nat) (f : Int → hRs), i = (k : Int) → k < 216 → hv_ald m 66 216 i f = f (m 66 k) := fun i k f e hk => by rw [e, hp_ald (by omega) (by omega), Int.toNat_natCast]
    unfold f_X11_count
    rw [g 0 0 _ rfl (by omega), g 1 1 _ rfl (by omega), g 2 2 _ rfl (by omega), g 3 3 _ rfl (by omega), g 4 4 _ rfl (by omega), g 2 2 _ rfl (by omega), g 4 4 _ rfl (by omega), g 5 5 _ rfl (by omega), h1, h2, h3, h4, h5.1, h5.2.1, h6.1]
    exact sw8 hx
  · unfold cn_v
    split
    · omega
    · split
      · omega
      · split
        · omega
        · split
          · omega
          · split
            · omega
            · split
              · omega
              · split
                · omega
                · split <;> omega
end
