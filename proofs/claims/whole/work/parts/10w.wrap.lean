/-! sums that are kept within 32 bits -/
def hv_wr (a : Int) : Int := (hv_I a).toInt
theorem hv_I_wr (a : Int) : hv_I (hv_wr a) = hv_I a := Int32.ofInt_toInt _
section
variable {X : hv_X} {cc : ByteArray} {nL : Nat} {own : String} {ret : Option FieldType} {d RC RS cells slots : Nat} {Q : Int → hMem → State → Prop} {t : hRs} {mem : hMem} {E : hv_E} {lv lv' : List (Nat × Value)} {st : List Value} {pc : Nat}
theorem hv_iaddw (hc : hv_C X cc nL own ret d RC RS) {a b : Int} (hd : decode cc pc = .ok (.iadd, 1)) (kk : hv_R X nL cells slots Q t mem E lv (.int (hv_I (hv_wr (a + b))) :: st) (pc + 1)) : hv_R X nL cells slots Q t mem E lv (.int (hv_I b) :: .int (hv_I a) :: st) pc := by
  rw [hv_I_wr] at kk
  exact hv_iadd hc hd kk
theorem hv_isubw (hc : hv_C X cc nL own ret d RC RS) {a b : Int} (hd : decode cc pc = .ok (.isub, 1)) (kk : hv_R X nL cells slots Q t mem E lv (.int (hv_I (hv_wr (a - b))) :: st) (pc + 1)) : hv_R X nL cells slots Q t mem E lv (.int (hv_I b) :: .int (hv_I a) :: st) pc := by
  rw [hv_I_wr] at kk
  exact hv_isub hc hd kk
end
