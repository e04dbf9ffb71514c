/-! a flat memory of whole numbers (cell, place), and programs over it: what the methods do, told as functions -/
abbrev hMem : Type := Nat → Nat → Int
abbrev hRs : Type := Option (Int × hMem)
def hv_I (a : Int) : Int32 := Int32.ofInt a
abbrev hv_R32 (a : Int) : Prop := -2147483648 ≤ a ∧ a < 2147483648
def hv_lt (a b : Int) (A B : hRs) : hRs := if hv_R32 a ∧ hv_R32 b then (if a < b then A else B) else none
def hv_eq (a b : Int) (A B : hRs) : hRs := if hv_R32 a ∧ hv_R32 b then (if a = b then A else B) else none
def hv_up (m : hMem) (k j : Nat) (v : Int) : hMem := fun k' => if k' = k then (fun j' => if j' = j then v else m k j') else m k'
def hv_ald (m : hMem) (k n : Nat) (i : Int) (f : Int → hRs) : hRs := if 0 ≤ i ∧ i < (n : Int) then f (m k i.toNat) else none
def hv_ast (m : hMem) (k n : Nat) (i v : Int) (f : hMem → hRs) : hRs := if 0 ≤ i ∧ i < (n : Int) then f (hv_up m k i.toNat v) else none
def hv_put (m : hMem) (k j : Nat) (v : Int) (f : hMem → hRs) : hRs := f (hv_up m k j v)
def hv_set (v : Int) (f : Int → hRs) : hRs := f v
def hv_b (t : hRs) (f : Int → hMem → hRs) : hRs := match t with
  | none => none
  | some q => f q.1 q.2
def hv_ret (r : Int) (m : hMem) : hRs := some (r, m)
def hv_zr (r : Int) (m : hMem) : hRs := if r = 0 ∨ r = 1 then some (r, m) else none
def hv_mx (a b : Int) (f : Int → hRs) : hRs := if hv_R32 a ∧ hv_R32 b then f (if a < b then b else a) else none
def hv_mn (a b : Int) (f : Int → hRs) : hRs := if hv_R32 a ∧ hv_R32 b then f (if b < a then b else a) else none
def hv_rg (a : Int) (f : hRs) : hRs := if hv_R32 a then f else none
def hv_is (p q : Nat) (r : Int) (f : Nat → hRs) : hRs := if r = (p : Int) then f p else if r = (q : Int) then f q else none
def hv_and (a b : Int) : Int := (hv_I a &&& hv_I b).toInt
def hv_or (a b : Int) : Int := (hv_I a ||| hv_I b).toInt
def hv_shl (a b : Int) : Int := (hv_I a <<< (hv_I b &&& 31)).toInt
def hv_shr (a b : Int) : Int := (hv_I a >>> (hv_I b &&& 31)).toInt
def hv_ushr (a b : Int) : Int := ((hv_I a).toUInt32 >>> ((hv_I b).toUInt32 &&& Int32.toUInt32 31)).toInt32.toInt
def hv_div (a b : Int) : Int := (hv_I a / hv_I b).toInt
def hv_rem (a b : Int) : Int := (hv_I a - (hv_I a / hv_I b) * hv_I b).toInt
/-- a row made anew in a method -/
def hv_nld (f : Nat → Int) (n : Nat) (i : Int) (k : Int → hRs) : hRs := if 0 ≤ i ∧ i < (n : Int) then k (f i.toNat) else none
def hv_nst (f : Nat → Int) (n : Nat) (i v : Int) (k : (Nat → Int) → hRs) : hRs := if 0 ≤ i ∧ i < (n : Int) then k (fun j => if j = i.toNat then v else f j) else none
/-- far above what any loop needs -/
def hv_FU : Nat := 1000000
/-- shapes: an int row of a length; an object of a class with its fields (none: an int; some: the cell that it names) -/
abbrev hv_Sh : Type := Nat ⊕ (Nat × List (Option Nat))
