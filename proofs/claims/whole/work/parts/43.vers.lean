/-! versions: how made, of which, of which other, the turn that is put, its time -/
abbrev hVr : Type := Nat × Nat × Nat × Nat × Nat
def v_how (v : hVr) : Nat := v.1
def v_of (v : hVr) : Nat := v.2.1
def v_ot (v : hVr) : Nat := v.2.2.1
def v_tu (v : hVr) : Nat := v.2.2.2.1
def v_ti (v : hVr) : Nat := v.2.2.2.2
abbrev hH : Type := hA × List Nat × List Nat
def h_step (law w : Nat) (S : hH) (v : hVr) : hA × Nat × Nat :=
  if v_how v = 1 then (if S.2.1.length = w then (S.1, S.2.1.getD (v_of v) 0, 0) else s_join law (S.1 ++ [mkH S.1 S.1.length (v_tu v) []]) S.1.length (S.2.1.getD (v_of v) 0))
  else if v_how v = 2 then s_join law S.1 (S.2.1.getD (v_of v) 0) (S.2.1.getD (v_ot v) 0)
  else if v_how v = 3 then s_take law S.1 (S.2.1.getD (v_of v) 0)
  else (S.1, 0, 0)
def h_add (law w : Nat) (S : hH) (v : hVr) : hH := ((h_step law w S v).1, S.2.1 ++ [(h_step law w S v).2.1], S.2.2 ++ [(h_step law w S v).2.2])
def h_all (law w : Nat) (vs : List hVr) : hH := vs.foldl (h_add law w) ([n_0], [], [])
def ins (t : Nat) : List Nat → List Nat
  | [] => [t]
  | x :: l => if x < t then x :: ins t l else t :: x :: l
def mix : List Nat → List Nat → List Nat
  | [], b => b
  | x :: a, b => b.takeWhile (fun y => decide (y < x)) ++ x :: mix a (b.dropWhile (fun y => decide (y < x)))
def b_step (w : Nat) (B : List (List Nat)) (v : hVr) : List Nat :=
  if v_how v = 1 then (if B.length = w then B.getD (v_of v) [] else ins (v_tu v) (B.getD (v_of v) []))
  else if v_how v = 2 then mix (B.getD (v_of v) []) (B.getD (v_ot v) [])
  else if v_how v = 3 then (B.getD (v_of v) []).tail
  else []
def b_add (w : Nat) (B : List (List Nat)) (v : hVr) : List (List Nat) := B ++ [b_step w B v]
def b_all (w : Nat) (vs : List hVr) : List (List Nat) := vs.foldl (b_add w) []
theorem h_snoc (law w : Nat) (vs : List hVr) (v : hVr) : h_all law w (vs ++ [v]) = h_add law w (h_all law w vs) v := by simp [h_all, List.foldl_append]
theorem b_snoc (w : Nat) (vs : List hVr) (v : hVr) : b_all w (vs ++ [v]) = b_add w (b_all w vs) v := by simp [b_all, List.foldl_append]
/-- up to a version, puts -/
def nput (vs : List hVr) : Nat := (vs.filter (fun v => decide (v_how v = 1))).length
theorem nput_snoc (vs : List hVr) (v : hVr) : nput (vs ++ [v]) = nput vs + (if v_how v = 1 then 1 else 0) := by
  unfold nput
  rw [List.filter_append, List.length_append]
  by_cases h : v_how v = 1
  · simp [h]
  · simp [h]
/-- a version that may stand behind these -/
def Ov (vs : List hVr) (v : hVr) : Prop :=
  (v_how v = 0) ∨
  (v_how v = 1 ∧ v_of v < vs.length ∧ (∃ k, k ≤ 999 ∧ v_tu v = k * 30 + nput vs) ∧ 1 ≤ v_ti v ∧ v_ti v ≤ 99 ∧ ((b_all 99 vs).getD (v_of v) []).length ≤ 23) ∨
  (v_how v = 2 ∧ v_of v < vs.length ∧ v_ot v < vs.length ∧ ((b_all 99 vs).getD (v_of v) []).length + ((b_all 99 vs).getD (v_ot v) []).length ≤ 24) ∨
  (v_how v = 3 ∧ v_of v < vs.length ∧ 1 ≤ ((b_all 99 vs).getD (v_of v) []).length)
def Os (vs : List hVr) : Prop := vs.length ≤ 30 ∧ ∀ n v, vs[n]? = some v → Ov (vs.take n) v
/-- bags -/
theorem ins_perm (t : Nat) : ∀ (l : List Nat), (ins t l).Perm (t :: l)
  | [] => List.Perm.refl _
  | x :: l => by
    unfold ins
    by_cases h : x < t
    · rw [if_pos h]
      exact (List.Perm.cons x (ins_perm t l)).trans (List.Perm.swap _ _ _)
    · rw [if_neg h]
theorem mix_perm : ∀ (a b : List Nat), (mix a b).Perm (a ++ b)
  | [], b => List.Perm.refl _
  | x :: a, b => by
    unfold mix
    have h1 := mix_perm a (b.dropWhile (fun y => decide (y < x)))
    have h2 : b.takeWhile (fun y => decide (y < x)) ++ b.dropWhile (fun y => decide (y < x)) = b := List.takeWhile_append_dropWhile
    refine (List.perm_middle).trans ?_
    show List.Perm _ (x :: (a ++ b))
    refine List.Perm.cons x ?_
    refine (List.Perm.append_left _ h1).trans ?_
    refine (List.perm_append_comm_assoc _ _ _).trans ?_
    rw [h2]
def So (l : List Nat) : Prop := l.Pairwise (· ≤ ·)
theorem ins_so (t : Nat) : ∀ {l : List Nat}, So l → So (ins t l)
  | [], _ => by simp [ins, So]
  | x :: l, h => by
    have h' := List.pairwise_cons.mp h
    unfold ins
    by_cases c : x < t
    · rw [if_pos c]
      refine List.pairwise_cons.mpr ⟨fun y hy => ?_, ins_so t h'.2⟩
      rcases List.mem_cons.mp ((ins_perm t l).mem_iff.mp hy) with e | e
      · omega
      · exact h'.1 y e
    · rw [if_neg c]
      refine List.pairwise_cons.mpr ⟨fun y hy => ?_, h⟩
      rcases List.mem_cons.mp hy with e | e
      · omega
      · have := h'.1 y e; omega
theorem drop_ge {x : Nat} : ∀ {b : List Nat}, So b → ∀ y ∈ b.dropWhile (fun y => decide (y < x)), x ≤ y
  | [], _, y, hy => by simp at hy
  | z :: b, h, y, hy => by
    have h' := List.pairwise_cons.mp h
    by_cases c : z < x
    · rw [List.dropWhile_cons_of_pos (by simp [c])] at hy
      exact drop_ge h'.2 y hy
    · rw [List.dropWhile_cons_of_neg (by simp [c])] at hy
      rcases List.mem_cons.mp hy with e | e
      · omega
      · have := h'.1 y e; omega
theorem take_lt {x : Nat} : ∀ {b : List Nat}, ∀ y ∈ b.takeWhile (fun y => decide (y < x)), y < x
  | [], y, hy => by simp at hy
  | z :: b, y, hy => by
    by_cases c : z < x
    · rw [List.takeWhile_cons_of_pos (by simp [c])] at hy
      rcases List.mem_cons.mp hy with e | e
      · omega
      · exact take_lt y e
    · rw [List.takeWhile_cons_of_neg (by simp [c])] at hy
      simp at hy
theorem mix_so : ∀ {a b : List Nat}, So a → So b → So (mix a b)
  | [], b, _, hb => hb
  | x :: a, b, ha, hb => by
    have ha' := List.pairwise_cons.mp ha
    unfold mix
    have hd : So (b.dropWhile (fun y => decide (y < x))) := hb.sublist (List.dropWhile_sublist _)
    refine List.pairwise_append.mpr ⟨hb.sublist (List.takeWhile_sublist _), List.pairwise_cons.mpr ⟨fun y hy => ?_, mix_so ha'.2 hd⟩, fun y hy z hz => ?_⟩
    · rcases List.mem_append.mp ((mix_perm _ _).mem_iff.mp hy) with e | e
      · exact ha'.1 y e
      · exact drop_ge hb y e
    · have h1 := take_lt y hy
      rcases List.mem_cons.mp hz with e | e
      · omega
      · rcases List.mem_append.mp ((mix_perm _ _).mem_iff.mp e) with e | e
        · have := ha'.1 z e; omega
        · have := drop_ge hb z e; omega
