/-! how many bits: the machine library's way over four bytes at once -/
theorem and_sh {y r M c : Nat} (k : Nat) (hk : k ≤ 8) (hr : r < 256) (hc : c < 2 ^ (8 - k)) : ((256 * y + r) >>> k) &&& (256 * M + c) = 256 * ((y >>> k) &&& M) + ((r >>> k) &&& c) := by
  have hc8 : c < 2 ^ 8 := Nat.lt_of_lt_of_le hc (Nat.pow_le_pow_right (by decide) (by omega))
  have hrc : (r >>> k) &&& c < 2 ^ 8 := Nat.and_lt_two_pow _ hc8
  refine Nat.eq_of_testBit_eq fun j => ?_
  rw [Nat.testBit_and, Nat.testBit_shiftRight, show (256 : Nat) = 2 ^ 8 from rfl, Nat.testBit_two_pow_mul_add y (show r < 2 ^ 8 from hr), Nat.testBit_two_pow_mul_add M hc8, Nat.testBit_two_pow_mul_add _ hrc]
  by_cases h : j < 8
  · rw [if_pos h, if_pos h, Nat.testBit_and, Nat.testBit_shiftRight]
    by_cases h' : k + j < 8
    · rw [if_pos h']
    · rw [if_neg h']
      have : c.testBit j = false := Nat.testBit_lt_two_pow (Nat.lt_of_lt_of_le hc (Nat.pow_le_pow_right (by decide) (by omega)))
      rw [this, Bool.and_false, Bool.and_false]
  · rw [if_neg h, if_neg h, if_neg (by omega), Nat.testBit_and, Nat.testBit_shiftRight, show k + j - 8 = k + (j - 8) by omega]
theorem and_4 {r0 r1 r2 r3 c : Nat} (k : Nat) (hk : k ≤ 8) (h0 : r0 < 256) (h1 : r1 < 256) (h2 : r2 < 256) (h3 : r3 < 256) (hc : c < 2 ^ (8 - k)) : ((256 * (256 * (256 * r3 + r2) + r1) + r0) >>> k) &&& (256 * (256 * (256 * c + c) + c) + c) = 256 * (256 * (256 * ((r3 >>> k) &&& c) + ((r2 >>> k) &&& c)) + ((r1 >>> k) &&& c)) + ((r0 >>> k) &&& c) := by
  rw [and_sh k hk h0 hc, and_sh k hk h1 hc, and_sh k hk h2 hc]
def bc1 (r : Nat) : Nat := r - ((r >>> 1) &&& 85)
def bc2 (w : Nat) : Nat := (w &&& 51) + ((w >>> 2) &&& 51)
theorem bc_le1 : ∀ r, r < 256 → (r >>> 1) &&& 85 ≤ r := by decide +kernel
theorem bc_le2 : ∀ r, r < 256 → bc2 (bc1 r) ≤ 68 ∧ bc2 (bc1 r) % 16 ≤ 4 := by decide +kernel
theorem bc_ok : ∀ r, r < 256 → (bc2 (bc1 r) + bc2 (bc1 r) / 16) % 16 = cntB r 8 := by decide +kernel
theorem cntB_low {r y : Nat} (hr : r < 256) : ∀ k, k ≤ 8 → cntB (256 * y + r) k = cntB r k
  | 0, _ => rfl
  | k + 1, hk => by
    have ih := cntB_low (y := y) hr k (by omega)
    show cntB (256 * y + r) k + _ = cntB r k + _
    rw [ih, show (256 : Nat) = 2 ^ 8 from rfl, Nat.testBit_two_pow_mul_add y (show r < 2 ^ 8 from hr), if_pos (show k < 8 by omega)]
theorem cntB_byte {r y : Nat} (hr : r < 256) : ∀ k, cntB (256 * y + r) (8 + k) = cntB r 8 + cntB y k
  | 0 => cntB_low hr 8 (Nat.le_refl _)
  | k + 1 => by
    have ih := cntB_byte (y := y) hr k
    have d1 : cntB (256 * y + r) (8 + (k + 1)) = cntB (256 * y + r) (8 + k) + (if (256 * y + r).testBit (8 + k) = true then 1 else 0) := rfl
    have d2 : cntB y (k + 1) = cntB y k + (if y.testBit k = true then 1 else 0) := rfl
    rw [d1, d2, ih, show (256 : Nat) = 2 ^ 8 from rfl, Nat.testBit_two_pow_mul_add y (show r < 2 ^ 8 from hr), if_neg (show ¬ 8 + k < 8 by omega), show 8 + k - 8 = k by omega]
    omega
theorem cntB_32 {r0 r1 r2 r3 : Nat} (h0 : r0 < 256) (h1 : r1 < 256) (h2 : r2 < 256) (h3 : r3 < 256) : cntB (256 * (256 * (256 * r3 + r2) + r1) + r0) 32 = cntB r0 8 + (cntB r1 8 + (cntB r2 8 + cntB r3 8)) := by
  rw [show 32 = 8 + 24 from rfl, cntB_byte h0, show 24 = 8 + 16 from rfl, cntB_byte h1, show 16 = 8 + 8 from rfl, cntB_byte h2]
theorem cntB_top {a : Nat} (h : a < 1073741824) : cntB a 32 = cntB a 30 := by
  show cntB a 30 + _ + _ = _
  rw [if_neg (show ¬ a.testBit 30 = true from fun q => absurd (tb_lt h q) (by decide)), if_neg (show ¬ a.testBit (30 + 1) = true from fun q => absurd (tb_lt h q) (by decide))]
  exact rfl
theorem w_bitCount {a : Nat} {z : Hp} {K : Int → Prop} (ha : a < 1073741824) (k : K (cntB a 30 : Nat)) : cal_J6_bitCount_0f7a4 a z K := by
  obtain ⟨r0, r1, r2, r3, h0, h1, h2, h3, rfl⟩ : ∃ r0 r1 r2 r3 : Nat, r0 < 256 ∧ r1 < 256 ∧ r2 < 256 ∧ r3 < 256 ∧ a = 256 * (256 * (256 * r3 + r2) + r1) + r0 := ⟨a % 256, a / 256 % 256, a / 65536 % 256, a / 16777216, by omega, by omega, by omega, by omega, by omega⟩
  have m : (256 * (256 * (256 * r3 + r2) + r1) + r0) >>> 1 &&& 1431655765 = _ := and_4 (c := 85) 1 (by decide) h0 h1 h2 h3 (by decide)
  have e0 := bc_le1 r0 h0
  have e1 := bc_le1 r1 h1
  have e2 := bc_le1 r2 h2
  have e3 := bc_le1 r3 h3
  rw [← cntB_top ha, cntB_32 h0 h1 h2 h3] at k
  have u0 := bc_le2 r0 h0
  have u1 := bc_le2 r1 h1
  have u2 := bc_le2 r2 h2
  have u3 := bc_le2 r3 h3
  rw [← bc_ok r0 h0, ← bc_ok r1 h1, ← bc_ok r2 h2, ← bc_ok r3 h3] at k
  unfold cal_J6_bitCount_0f7a4
  refine lt_i ?_
  have x1 : (((256 * (256 * (256 * r3 + r2) + r1) + r0 : Nat) : Int) - iand (iushr ((256 * (256 * (256 * r3 + r2) + r1) + r0 : Nat) : Int) 1) 1431655765) = ((256 * (256 * (256 * bc1 r3 + bc1 r2) + bc1 r1) + bc1 r0 : Nat) : Int) := by
    have s1 : iushr ((256 * (256 * (256 * r3 + r2) + r1) + r0 : Nat) : Int) 1 = _ := iushr_n (i := 1) (by omega) (by omega)
    rw [s1]
    have hle : (256 * (256 * (256 * r3 + r2) + r1) + r0) >>> 1 ≤ 256 * (256 * (256 * r3 + r2) + r1) + r0 := by rw [Nat.shiftRight_eq_div_pow]; exact Nat.div_le_self _ _
    have s2 : iand (((256 * (256 * (256 * r3 + r2) + r1) + r0) >>> 1 : Nat) : Int) 1431655765 = _ := iand_n (b := 1431655765) (by omega) (by decide)
    rw [s2, m]
    unfold bc1
    omega
  rw [x1]
  have w0 : bc1 r0 < 256 := by unfold bc1; omega
  have w1 : bc1 r1 < 256 := by unfold bc1; omega
  have w2 : bc1 r2 < 256 := by unfold bc1; omega
  have w3 : bc1 r3 < 256 := by unfold bc1; omega
  have hb : 256 * (256 * (256 * bc1 r3 + bc1 r2) + bc1 r1) + bc1 r0 < 2147483648 := by
    have : 256 * (256 * (256 * bc1 r3 + bc1 r2) + bc1 r1) + bc1 r0 ≤ 256 * (256 * (256 * r3 + r2) + r1) + r0 := by unfold bc1; omega
    omega
  have m1 : (256 * (256 * (256 * bc1 r3 + bc1 r2) + bc1 r1) + bc1 r0) >>> 0 &&& 858993459 = _ := and_4 (c := 51) 0 (by decide) w0 w1 w2 w3 (by decide)
  have m2 : (256 * (256 * (256 * bc1 r3 + bc1 r2) + bc1 r1) + bc1 r0) >>> 2 &&& 858993459 = _ := and_4 (c := 51) 2 (by decide) w0 w1 w2 w3 (by decide)
  unfold bc2 at u0 u1 u2 u3 k
  generalize bc1 r0 = q0 at *
  generalize bc1 r1 = q1 at *
  generalize bc1 r2 = q2 at *
  generalize bc1 r3 = q3 at *
  refine lt_i ?_
  have x2 : iand ((256 * (256 * (256 * q3 + q2) + q1) + q0 : Nat) : Int) 858993459 + iand (iushr ((256 * (256 * (256 * q3 + q2) + q1) + q0 : Nat) : Int) 2) 858993459 = ((256 * (256 * (256 * ((q3 &&& 51) + ((q3 >>> 2) &&& 51)) + ((q2 &&& 51) + ((q2 >>> 2) &&& 51))) + ((q1 &&& 51) + ((q1 >>> 2) &&& 51))) + ((q0 &&& 51) + ((q0 >>> 2) &&& 51)) : Nat) : Int) := by
    have s1 : iushr ((256 * (256 * (256 * q3 + q2) + q1) + q0 : Nat) : Int) 2 = _ := iushr_n (i := 2) (by omega) (by omega)
    have hle : (256 * (256 * (256 * q3 + q2) + q1) + q0) >>> 2 ≤ 256 * (256 * (256 * q3 + q2) + q1) + q0 := by rw [Nat.shiftRight_eq_div_pow]; exact Nat.div_le_self _ _
    have s2 : iand (((256 * (256 * (256 * q3 + q2) + q1) + q0) >>> 2 : Nat) : Int) 858993459 = _ := iand_n (b := 858993459) (by omega) (by decide)
    have s3 : iand ((256 * (256 * (256 * q3 + q2) + q1) + q0 : Nat) : Int) 858993459 = _ := iand_n (b := 858993459) (by omega) (by decide)
    rw [s1, s2, s3, m2]
    rw [Nat.shiftRight_zero] at m1
    rw [m1]
    simp only [Nat.shiftRight_zero]
    omega
  rw [x2]
  generalize (q0 &&& 51) + ((q0 >>> 2) &&& 51) = u0' at *
  generalize (q1 &&& 51) + ((q1 >>> 2) &&& 51) = u1' at *
  generalize (q2 &&& 51) + ((q2 >>> 2) &&& 51) = u2' at *
  generalize (q3 &&& 51) + ((q3 >>> 2) &&& 51) = u3' at *
  refine lt_i ?_
  have x3 : iand (((256 * (256 * (256 * u3' + u2') + u1') + u0' : Nat) : Int) + iushr ((256 * (256 * (256 * u3' + u2') + u1') + u0' : Nat) : Int) 4) 252645135 = ((256 * (256 * (256 * ((u3' + u3' / 16) % 16) + (u2' + u2' / 16) % 16) + (u1' + u1' / 16) % 16) + (u0' + u0' / 16) % 16 : Nat) : Int) := by
    have s1 : iushr ((256 * (256 * (256 * u3' + u2') + u1') + u0' : Nat) : Int) 4 = _ := iushr_n (i := 4) (by omega) (by omega)
    rw [s1, Nat.shiftRight_eq_div_pow]
    have e : (((256 * (256 * (256 * u3' + u2') + u1') + u0' : Nat) : Int) + (((256 * (256 * (256 * u3' + u2') + u1') + u0') / 2 ^ 4 : Nat) : Int)) = ((256 * (256 * (256 * (u3' + u3' / 16) + (u2' + u2' / 16 + 16 * (u3' % 16))) + (u1' + u1' / 16 + 16 * (u2' % 16))) + (u0' + u0' / 16 + 16 * (u1' % 16)) : Nat) : Int) := by
      omega
    rw [e]
    have s2 : iand ((256 * (256 * (256 * (u3' + u3' / 16) + (u2' + u2' / 16 + 16 * (u3' % 16))) + (u1' + u1' / 16 + 16 * (u2' % 16))) + (u0' + u0' / 16 + 16 * (u1' % 16)) : Nat) : Int) 252645135 = _ := iand_n (b := 252645135) (by omega) (by decide)
    have m3 : (256 * (256 * (256 * (u3' + u3' / 16) + (u2' + u2' / 16 + 16 * (u3' % 16))) + (u1' + u1' / 16 + 16 * (u2' % 16))) + (u0' + u0' / 16 + 16 * (u1' % 16))) >>> 0 &&& 252645135 = _ := and_4 (c := 15) 0 (by decide) (by omega) (by omega) (by omega) (by omega) (by decide)
    have a15 : ∀ x : Nat, x >>> 0 &&& 15 = x % 16 := fun x => Nat.and_two_pow_sub_one_eq_mod x 4
    rw [Nat.shiftRight_zero] at m3
    rw [s2, m3, a15, a15, a15, a15, Nat.add_mul_mod_self_left, Nat.add_mul_mod_self_left, Nat.add_mul_mod_self_left]
  rw [x3]
  have t0 : (u0' + u0' / 16) % 16 < 16 := Nat.mod_lt _ (by decide)
  have t1 : (u1' + u1' / 16) % 16 < 16 := Nat.mod_lt _ (by decide)
  have t2 : (u2' + u2' / 16) % 16 < 16 := Nat.mod_lt _ (by decide)
  have t3 : (u3' + u3' / 16) % 16 < 16 := Nat.mod_lt _ (by decide)
  have c8 : ∀ r, r < 256 → cntB r 8 ≤ 8 := fun r _ => cntB_ub r 8
  generalize (u0' + u0' / 16) % 16 = p0 at *
  generalize (u1' + u1' / 16) % 16 = p1 at *
  generalize (u2' + u2' / 16) % 16 = p2 at *
  generalize (u3' + u3' / 16) % 16 = p3 at *
  refine lt_i (lt_i ?_)
  have s1 : iushr ((256 * (256 * (256 * p3 + p2) + p1) + p0 : Nat) : Int) 8 = _ := iushr_n (i := 8) (by omega) (by omega)
  rw [s1, Nat.shiftRight_eq_div_pow]
  have e4 : ((256 * (256 * (256 * p3 + p2) + p1) + p0 : Nat) : Int) + (((256 * (256 * (256 * p3 + p2) + p1) + p0) / 2 ^ 8 : Nat) : Int) = ((256 * (256 * (256 * p3 + (p2 + p3)) + (p1 + p2)) + (p0 + p1) : Nat) : Int) := by omega
  rw [e4]
  have s2 : iushr ((256 * (256 * (256 * p3 + (p2 + p3)) + (p1 + p2)) + (p0 + p1) : Nat) : Int) 16 = _ := iushr_n (i := 16) (by omega) (by omega)
  rw [s2, Nat.shiftRight_eq_div_pow]
  have e5 : ((256 * (256 * (256 * p3 + (p2 + p3)) + (p1 + p2)) + (p0 + p1) : Nat) : Int) + (((256 * (256 * (256 * p3 + (p2 + p3)) + (p1 + p2)) + (p0 + p1)) / 2 ^ 16 : Nat) : Int) = ((256 * (256 * (256 * p3 + (p2 + p3)) + (p1 + p2 + p3)) + (p0 + p1 + p2 + p3) : Nat) : Int) := by omega
  refine lt_i ?_
  rw [e5]
  have s3 : iand ((256 * (256 * (256 * p3 + (p2 + p3)) + (p1 + p2 + p3)) + (p0 + p1 + p2 + p3) : Nat) : Int) 63 = _ := iand_n (b := 63) (by omega) (by decide)
  rw [s3, show ∀ x : Nat, x &&& 63 = x % 64 from fun x => Nat.and_two_pow_sub_one_eq_mod x 6]
  rw [show (256 * (256 * (256 * p3 + (p2 + p3)) + (p1 + p2 + p3)) + (p0 + p1 + p2 + p3)) % 64 = p0 + (p1 + (p2 + p3)) by omega]
  exact k
