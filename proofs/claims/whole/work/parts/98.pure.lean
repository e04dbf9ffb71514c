theorem hp_law (xs : Nat → Int32) (L : Nat) (hL : L ≤ 3072) : ∃ (r : Int) (m' : hMem), L_law (fun j => (xs j).toInt) L 600 0 hv_m0 = some (r, m') := sorry
