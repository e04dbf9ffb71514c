def hv_SHL : List hv_Sh := [.inr (10, [some 1, some 3, some 11, some 14, some 20, some 23, some 26, some 42, some 58, some 61, none, none, none, none]), .inr (7, [some 2, none]), .inl 600, .inr (4, [some 4, some 5, some 6, some 7, some 8, some 9, some 10, none, none, none, none, none, none, none]), .inr (8, [some 1, none, none, none, none]), .inl 20, .inl 20, .inl 20, .inl 20, .inl 20, .inl 20, .inr (3, [some 12, some 13, none]), .inl 30, .inl 30, .inr (6, [some 15, some 16, some 17, some 18, some 19, none]), .inl 30, .inl 30, .inl 30, .inl 30, .inl 30, .inr (0, [some 21, some 22]), .inl 720, .inl 30, .inr (0, [some 24, some 25]), .inl 720, .inl 30, .inr (2, [none, some 27, some 37, some 38, some 39, some 40, some 41, none, none, none]), .inr (1, [some 28, some 29, some 30, some 31, some 32, some 33, some 34, some 35, some 36, none, none]), .inl 864, .inl 864, .inl 864, .inl 864, .inl 864, .inl 864, .inl 864, .inl 2592, .inl 2592, .inl 30, .inl 30, .inl 30, .inl 30, .inl 64, .inr (2, [none, some 43, some 53, some 54, some 55, some 56, some 57, none, none, none]), .inr (1, [some 44, some 45, some 46, some 47, some 48, some 49, some 50, some 51, some 52, none, none]), .inl 864, .inl 864, .inl 864, .inl 864, .inl 864, .inl 864, .inl 864, .inl 2592, .inl 2592, .inl 30, .inl 30, .inl 30, .inl 30, .inl 64, .inr (9, [some 59, some 60, none, none]), .inl 864, .inl 864, .inr (5, [some 11, some 62, some 63, some 64, none, none, none, none, none]), .inl 8, .inl 24, .inl 24, .inr (11, [some 66, some 67, some 68, none, none, none, none, none, none, none, none, some 69, some 70, none, some 71, some 72, some 73, some 74, none, some 75, some 76, none, none, some 77, some 78, some 79, some 80, some 81, some 82, some 83, some 84, some 85]), .inl 216, .inl 216, .inl 600, .inl 8000, .inl 8000, .inl 8000, .inl 8000, .inl 8000, .inl 8000, .inl 40000, .inl 40000, .inl 30, .inl 30, .inl 30, .inl 54, .inl 8000, .inl 8000, .inl 8, .inl 54, .inl 54]
def hv_SH (k : Nat) : Option hv_Sh := hv_SHL[k]?
def hv_N : Nat := 86
theorem hv_SH_lt {k : Nat} {x : hv_Sh} (h : hv_SH k = some x) : k < hv_N := by
  have h1 : k < hv_SHL.length := (List.getElem?_eq_some_iff.mp h).1
  exact h1
def hv_fv (ad : Nat → Nat) (f : Nat → Int) : Nat → List (Option Nat) → List Value
  | _, [] => []
  | j, none :: t => .int (hv_I (f j)) :: hv_fv ad f (j + 1) t
  | j, some r :: t => .ref (ad r) :: hv_fv ad f (j + 1) t
def hv_ce (ad : Nat → Nat) (ca : ClassId) (m : Nat → Int) (x : Option hv_Sh) : va_E := match x with
  | none => .inr (0, [])
  | some (.inl n) => .inl (ca, (n, .inl (fun j => hv_I (m j))))
  | some (.inr (ci, fs)) => .inr (ci, hv_fv ad m 0 fs)
def hv_w (ad : Nat → Nat) (ca : ClassId) (m : hMem) : va_W := (List.range hv_N).map (fun k => (ad k, hv_ce ad ca (m k) (hv_SH k)))
abbrev hv_E : Type := List (Nat × Nat × (Nat → Int))
def hv_ew (ca : ClassId) (E : hv_E) : va_W := E.map (fun q => (q.1, .inl (ca, (q.2.1, .inl (fun j => hv_I (q.2.2 j))))))
def hv_A (ad : Nat → Nat) (sz : Nat) : Nat → Prop := fun q => (∃ k, k < hv_N ∧ q = ad k) ∨ sz ≤ q
theorem hv_fv_get {ad : Nat → Nat} {f : Nat → Int} : ∀ {fs : List (Option Nat)} {i j : Nat} {x : Option Nat}, fs[j]? = some x → (hv_fv ad f i fs)[j]? = some (match x with | none => Value.int (hv_I (f (i + j))) | some r => Value.ref (ad r))
  | [], i, j, x, h => by simp at h
  | y :: t, i, 0, x, h => by
    simp only [List.getElem?_cons_zero, Option.some.injEq] at h
    subst h
    cases y <;> rfl
  | y :: t, i, j + 1, x, h => by
    rw [List.getElem?_cons_succ] at h
    have ih := hv_fv_get (ad := ad) (f := f) (fs := t) (i := i + 1) (j := j) (x := x) h
    have e : i + 1 + j = i + (j + 1) := by omega
    rw [e] at ih
    cases y <;> exact ih
theorem hv_fv_len {ad : Nat → Nat} {f : Nat → Int} : ∀ (fs : List (Option Nat)) (i : Nat), (hv_fv ad f i fs).length = fs.length
  | [], _ => rfl
  | none :: t, i => by show (hv_fv ad f (i + 1) t).length + 1 = _; rw [hv_fv_len t (i + 1)]; rfl
  | some _ :: t, i => by show (hv_fv ad f (i + 1) t).length + 1 = _; rw [hv_fv_len t (i + 1)]; rfl
theorem hv_fv_congr {ad : Nat → Nat} {f g : Nat → Int} : ∀ (fs : List (Option Nat)) (i : Nat), (∀ j, i ≤ j → f j = g j) → hv_fv ad f i fs = hv_fv ad g i fs
  | [], _, _ => rfl
  | none :: t, i, h => by
    show _ :: _ = _ :: _
    rw [h i (Nat.le_refl _), hv_fv_congr t (i + 1) (fun j hj => h j (by omega))]
  | some _ :: t, i, h => by
    show _ :: _ = _ :: _
    rw [hv_fv_congr t (i + 1) (fun j hj => h j (by omega))]
theorem hv_fv_set {ad : Nat → Nat} {f : Nat → Int} {v : Int} : ∀ {fs : List (Option Nat)} {i j : Nat}, fs[j]? = some none → (hv_fv ad f i fs).set j (.int (hv_I v)) = hv_fv ad (fun q => if q = i + j then v else f q) i fs
  | [], i, j, h => by simp at h
  | y :: t, i, 0, h => by
    simp only [List.getElem?_cons_zero, Option.some.injEq] at h
    subst h
    show Value.int (hv_I v) :: _ = Value.int (hv_I (if i = i + 0 then v else f i)) :: _
    rw [if_pos (Nat.add_zero i).symm]
    congr 1
    exact hv_fv_congr t (i + 1) (fun j hj => by rw [if_neg (by omega)])
  | y :: t, i, j + 1, h => by
    rw [List.getElem?_cons_succ] at h
    have ih := hv_fv_set (ad := ad) (f := f) (v := v) (fs := t) (i := i + 1) (j := j) h
    have e : i + 1 + j = i + (j + 1) := by omega
    rw [e] at ih
    cases y with
    | none =>
      show _ :: _ = Value.int (hv_I (if i = i + (j + 1) then v else f i)) :: _
      rw [if_neg (by omega), ← ih]; try rfl
    | some r =>
      show _ :: _ = _ :: _
      rw [← ih]; try rfl
theorem hv_w_get (ad : Nat → Nat) (ca : ClassId) (m : hMem) (E : hv_E) {k : Nat} {x : hv_Sh} (h : hv_SH k = some x) : (hv_w ad ca m ++ hv_ew ca E)[k]? = some (ad k, hv_ce ad ca (m k) (some x)) := by
  have hk := hv_SH_lt h
  rw [List.getElem?_append_left (by simp [hv_w]; exact hk)]
  simp [hv_w, hk, h]
theorem hv_w_len (ad : Nat → Nat) (ca : ClassId) (m : hMem) : (hv_w ad ca m).length = hv_N := by simp [hv_w]
theorem hv_w_set (ad : Nat → Nat) (ca : ClassId) (m m' : hMem) (E : hv_E) {k : Nat} {x : hv_Sh} (h : hv_SH k = some x) (ho : ∀ j, j ≠ k → m' j = m j) : (hv_w ad ca m ++ hv_ew ca E).set k (ad k, hv_ce ad ca (m' k) (some x)) = hv_w ad ca m' ++ hv_ew ca E := by
  have hk := hv_SH_lt h
  rw [List.set_append_left _ _ (by rw [hv_w_len]; exact hk)]
  congr 1
  apply List.ext_getElem?
  intro i
  rw [List.getElem?_set]
  by_cases hi : k = i
  · subst hi
    simp [hv_w, hk, h]
  · simp only [hi, if_false]
    simp only [hv_w, List.getElem?_map]
    by_cases hlt : i < hv_N
    · simp [hlt, ho i (Ne.symm hi)]
    · simp [hlt]
theorem hv_w_adr {ad : Nat → Nat} {ca : ClassId} {m : hMem} {k : Nat} {q : Nat × va_E} (h : (hv_w ad ca m)[k]? = some q) : k < hv_N ∧ q.1 = ad k := by
  have hk : k < (hv_w ad ca m).length := (List.getElem?_eq_some_iff.mp h).1
  rw [hv_w_len] at hk
  refine ⟨hk, ?_⟩
  simp [hv_w, hk] at h
  rw [← h]

