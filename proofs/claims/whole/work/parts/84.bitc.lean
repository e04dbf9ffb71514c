/-! bits counted, as the class does -/
def w1 (u : Nat) : Nat := u - ((u / 2) &&& 85)
def w2 (u : Nat) : Nat := (w1 u &&& 51) + ((w1 u / 4) &&& 51)
def bt (u : Nat) : Nat := (w2 u + w2 u / 16) % 16
theorem byte_all {u : Nat} (hu : u < 256) : ((u / 2) &&& 85) ≤ u ∧ w1 u < 256 ∧ w2 u ≤ 68 ∧ w2 u % 16 ≤ 4 ∧ bt u = pc u 8 ∧ pc u 8 ≤ 8 := by
  have t : ((List.range 256).all fun u => decide (((u / 2) &&& 85) ≤ u) && (decide (w1 u < 256) && (decide (w2 u ≤ 68) && (decide (w2 u % 16 ≤ 4) && (decide (bt u = pc u 8) && decide (pc u 8 ≤ 8)))))) = true := by decide +kernel
  have tu := List.all_eq_true.mp t u (List.mem_range.mpr hu)
  simp only [Bool.and_eq_true, decide_eq_true_eq] at tu
  exact ⟨tu.1, tu.2.1, tu.2.2.1, tu.2.2.2.1, tu.2.2.2.2.1, tu.2.2.2.2.2⟩
def f1b (Q x : Nat) : Nat := x - ((x / 2) &&& Q)
def f2b (Q x : Nat) : Nat := (x &&& Q) + ((x / 4) &&& Q)
def f3b (Q x : Nat) : Nat := (x + x / 16) &&& Q
theorem sub_fb {V u p q : Nat} (h1 : p ≤ V) (h2 : q ≤ u) : 256 * V + u - (256 * p + q) = 256 * (V - p) + (u - q) := by omega
theorem f1b_s (V Q : Nat) {u : Nat} (hu : u < 256) (hV : ((V / 2) &&& Q) ≤ V) (hq : ((u / 2) &&& 85) ≤ u) : f1b (256 * Q + 85) (256 * V + u) = 256 * f1b Q V + w1 u ∧ (((256 * V + u) / 2) &&& (256 * Q + 85)) ≤ 256 * V + u := by
  unfold f1b w1
  rw [and_m1 V Q hu]
  exact ⟨sub_fb hV hq, by omega⟩
theorem f2b_s (V Q : Nat) {u : Nat} (hu : u < 256) : f2b (256 * Q + 51) (256 * V + u) = 256 * f2b Q V + ((u &&& 51) + ((u / 4) &&& 51)) := by
  unfold f2b
  rw [and_m2 V Q hu, and_m3 V Q hu]
  omega
theorem f3b_s (V Q : Nat) {u : Nat} (hu : u ≤ 68) (hV : V % 16 ≤ 4) : f3b (256 * Q + 15) (256 * V + u) = 256 * f3b Q V + (u + u / 16) % 16 := by
  unfold f3b
  have e : 256 * V + u + (256 * V + u) / 16 = 256 * (V + V / 16) + (u + u / 16 + 16 * (V % 16)) := by omega
  rw [e, and_m4 _ _ (by omega), Nat.add_mul_mod_self_left]
theorem x_bytes (x : Nat) : x = 256 * (256 * (256 * (x / 16777216) + x / 65536 % 256) + x / 256 % 256) + x % 256 := by omega
theorem and63 (q0 q1 q2 q3 : Nat) (h0 : q0 ≤ 8) (h1 : q1 ≤ 8) (h2 : q2 ≤ 8) (h3 : q3 ≤ 8) (y : Nat) (hy : y = 256 * (256 * (256 * q3 + q2) + q1) + q0) : ((y + y / 256) + (y + y / 256) / 65536) &&& 63 = q0 + (q1 + (q2 + q3)) := by
  have e1 : y / 256 = 256 * (256 * q3 + q2) + q1 := by omega
  rw [e1]
  have e2 : (y + (256 * (256 * q3 + q2) + q1)) / 65536 = 256 * q3 + (q2 + q3) := by omega
  rw [e2, show ∀ z : Nat, z &&& 63 = z % 64 from fun z => Nat.and_two_pow_sub_one_eq_mod z 6]
  omega
theorem pc_bytes (a b c d : Nat) (ha : a < 256) (hb : b < 256) (hc : c < 256) : pc (256 * (256 * (256 * d + c) + b) + a) (8 + (8 + (8 + 8))) = pc a 8 + (pc b 8 + (pc c 8 + pc d 8)) := by
  have e : ∀ v u : Nat, 256 * v + u = 2 ^ 8 * v + u := fun v u => by rw [show (2 : Nat) ^ 8 = 256 by decide]
  rw [e _ a, pc_split _ (by rw [show (2 : Nat) ^ 8 = 256 by decide]; exact ha), e _ b, pc_split _ (by rw [show (2 : Nat) ^ 8 = 256 by decide]; exact hb), e _ c, pc_split _ (by rw [show (2 : Nat) ^ 8 = 256 by decide]; exact hc)]
theorem mod16 {V u : Nat} (h : u % 16 ≤ 4) : (256 * V + u) % 16 ≤ 4 := by omega
theorem bc_nat (a b c d : Nat) (ha : a < 256) (hb : b < 256) (hc : c < 256) (hd : d < 64) : ∃ y1 y2 y3, f1b 1431655765 (256 * (256 * (256 * d + c) + b) + a) = y1 ∧ (((256 * (256 * (256 * d + c) + b) + a) / 2) &&& 1431655765) ≤ 256 * (256 * (256 * d + c) + b) + a ∧ f2b 858993459 y1 = y2 ∧ f3b 252645135 y2 = y3 ∧ y1 < 4294967296 ∧ y2 ≤ 1145324612 ∧ y3 ≤ 134744072 ∧ (((y3 + y3 / 256) + (y3 + y3 / 256) / 65536) &&& 63) = pc a 8 + (pc b 8 + (pc c 8 + pc d 8)) := by
  obtain ⟨a1, a2, a3, a4, a5, a6⟩ := byte_all ha
  obtain ⟨b1, b2, b3, b4, b5, b6⟩ := byte_all hb
  obtain ⟨c1, c2, c3, c4, c5, c6⟩ := byte_all hc
  obtain ⟨d1, d2, d3, d4, d5, d6⟩ := byte_all (u := d) (by omega)
  have s1 := f1b_s d 85 hc d1 c1
  have s2 := f1b_s (256 * d + c) (256 * 85 + 85) hb s1.2 b1
  have s3 := f1b_s (256 * (256 * d + c) + b) (256 * (256 * 85 + 85) + 85) ha s2.2 a1
  rw [s2.1, s1.1] at s3
  have k1 : 256 * (256 * (256 * 85 + 85) + 85) + 85 = 1431655765 := by decide
  have k2 : 256 * (256 * (256 * 51 + 51) + 51) + 51 = 858993459 := by decide
  have k3 : 256 * (256 * (256 * 15 + 15) + 15) + 15 = 252645135 := by decide
  rw [k1] at s3
  have w1d : f1b 85 d = w1 d := rfl
  rw [w1d] at s3
  have t3 := f2b_s (256 * (256 * w1 d + w1 c) + w1 b) (256 * (256 * 51 + 51) + 51) a2
  rw [f2b_s (256 * w1 d + w1 c) (256 * 51 + 51) b2, f2b_s (w1 d) 51 c2, k2] at t3
  have t3 : f2b 858993459 (256 * (256 * (256 * w1 d + w1 c) + w1 b) + w1 a) = 256 * (256 * (256 * w2 d + w2 c) + w2 b) + w2 a := t3
  have r3 := f3b_s (256 * (256 * w2 d + w2 c) + w2 b) (256 * (256 * 15 + 15) + 15) a3 (mod16 b4)
  rw [f3b_s (256 * w2 d + w2 c) (256 * 15 + 15) b3 (mod16 c4), f3b_s (w2 d) 15 c3 d4, k3] at r3
  have w3d : f3b 15 (w2 d) = bt d := by unfold f3b bt; exact Nat.and_two_pow_sub_one_eq_mod _ 4
  rw [w3d] at r3
  have r3 : f3b 252645135 (256 * (256 * (256 * w2 d + w2 c) + w2 b) + w2 a) = 256 * (256 * (256 * bt d + bt c) + bt b) + bt a := r3
  rw [a5, b5, c5, d5] at r3
  exact ⟨_, _, _, s3.1, s3.2, t3, r3, by omega, by omega, by omega, and63 _ _ _ _ a6 b6 c6 d6 _ rfl⟩
theorem c_bitCount {x : Nat} {m : hMem} (hx : x < 2 ^ 30) : f_J6_bitCount_0f7a4 (x : Int) m = some ((pc x 32 : Int), m) := by
  have hx' : x < 1073741824 := hx
  obtain ⟨y1, y2, y3, h1, h0, h2, h3, l1, l2, l3, h4⟩ := bc_nat (x % 256) (x / 256 % 256) (x / 65536 % 256) (x / 16777216) (by omega) (by omega) (by omega) (by omega)
  have hp := pc_bytes (x % 256) (x / 256 % 256) (x / 65536 % 256) (x / 16777216) (by omega) (by omega) (by omega)
  rw [← x_bytes x] at h1 h0 hp
  rw [← hp] at h4
  have e1 : (x : Int) - (((x / 2) &&& 1431655765 : Nat) : Int) = (y1 : Int) := by
    have h1 : x - ((x / 2) &&& 1431655765) = y1 := h1
    omega
  have y1x : y1 ≤ x := by
    have h1 : x - ((x / 2) &&& 1431655765) = y1 := h1
    omega
  have e2 : ((y1 &&& 858993459 : Nat) : Int) + (((y1 / 4) &&& 858993459 : Nat) : Int) = (y2 : Int) := by
    have h2 : (y1 &&& 858993459) + ((y1 / 4) &&& 858993459) = y2 := h2
    omega
  have e3 : (y2 + y2 / 16) &&& 252645135 = y3 := h3
  have q1 := hv_ushr_n (a := x) (by omega)
  have q2 := hv_ushr_n (a := y1) (by omega)
  have q3 := hv_ushr_n (a := y2) (by omega)
  have q4 := hv_ushr_n (a := y3) (by omega)
  have q5 := hv_ushr_n (a := y3 + y3 / 256) (by omega)
  unfold f_J6_bitCount_0f7a4
  rw [hp_set, q1.1, show (1431655765 : Int) = ((1431655765 : Nat) : Int) from rfl, hv_and_n (by omega) (by decide), e1]
  rw [hp_set, q2.2.1, show (858993459 : Int) = ((858993459 : Nat) : Int) from rfl, hv_and_n (by omega) (by decide), hv_and_n (by omega) (by decide), e2]
  rw [hp_set, q3.2.2.1, show (y2 : Int) + ((y2 / 16 : Nat) : Int) = ((y2 + y2 / 16 : Nat) : Int) by omega, show (252645135 : Int) = ((252645135 : Nat) : Int) from rfl, hv_and_n (by omega) (by decide), e3]
  rw [hp_set, q4.2.2.2.1, show (y3 : Int) + ((y3 / 256 : Nat) : Int) = ((y3 + y3 / 256 : Nat) : Int) by omega]
  rw [hp_set, q5.2.2.2.2, show ((y3 + y3 / 256 : Nat) : Int) + (((y3 + y3 / 256) / 65536 : Nat) : Int) = (((y3 + y3 / 256) + (y3 + y3 / 256) / 65536 : Nat) : Int) by omega, show (63 : Int) = ((63 : Nat) : Int) from rfl, hv_and_n (by omega) (by decide), h4]
  rfl
