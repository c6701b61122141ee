/-! the world of a side: cells by number, what they hold as integers; rows of the machine over it -/
def kI (v : Int) : Value := .int (Int32.ofInt v)
def kL (v : Int) : Value := .long (Int64.ofInt v)
abbrev rg (x : Int) : Prop := -2147483648 ≤ x ∧ x ≤ 2147483647
abbrev nn (x : Int) : Prop := 0 ≤ x ∧ x ≤ 2147483647
abbrev bz (x : Int) : Prop := x = 0 ∨ x = 1
abbrev by8 (x : Int) : Prop := -128 ≤ x ∧ x ≤ 127
abbrev inb (i : Int) (n : Nat) : Prop := 0 ≤ i ∧ i < n
abbrev Hp : Type := Nat → Nat → Int
def kup (z : Hp) (c j : Nat) (x : Int) : Hp := fun a b => if a = c ∧ b = j then x else z a b
def kcp (z : Hp) (c0 c1 sp dp n : Nat) : Hp := fun a b => if a = c1 ∧ dp ≤ b ∧ b < dp + n then z c0 (sp + (b - dp)) else z a b
def iand (x y : Int) : Int := (Int32.ofInt x &&& Int32.ofInt y).toInt
def ior (x y : Int) : Int := (Int32.ofInt x ||| Int32.ofInt y).toInt
def ishl (x y : Int) : Int := (Int32.ofInt x <<< (Int32.ofInt y &&& 31)).toInt
def ishr (x y : Int) : Int := (Int32.ofInt x >>> (Int32.ofInt y &&& 31)).toInt
def iushr (x y : Int) : Int := ((Int32.ofInt x).toUInt32 >>> ((Int32.ofInt y).toUInt32 &&& Int32.toUInt32 31)).toInt32.toInt
/-- a let that stays -/
def lt1 (v : Int) (f : Int → Prop) : Prop := f v
/-- a join -/
def jn {α : Sort _} (F : α → Prop) (K : α) : Prop := F K
theorem jn_use {α : Sort _} {F : α → Prop} {K : α} {goal : Prop} (G : α → Prop) (h : jn F K) (hk : G K) (hf : ∀ J, G J → F J → goal) : goal := hf K hk h
/-- loops, by how many integers go round -/
def LP0 (F : (Hp → Prop) → Hp → Prop) (z : Hp) : Prop := ∀ X : Hp → Prop, (∀ z, F X z → X z) → X z
def LP1 (F : (Int → Hp → Prop) → Int → Hp → Prop) (a : Int) (z : Hp) : Prop := ∀ X : Int → Hp → Prop, (∀ a z, F X a z → X a z) → X a z
def LP2 (F : (Int → Int → Hp → Prop) → Int → Int → Hp → Prop) (a b : Int) (z : Hp) : Prop := ∀ X : Int → Int → Hp → Prop, (∀ a b z, F X a b z → X a b z) → X a b z
def LP3 (F : (Int → Int → Int → Hp → Prop) → Int → Int → Int → Hp → Prop) (a b c : Int) (z : Hp) : Prop := ∀ X : Int → Int → Int → Hp → Prop, (∀ a b c z, F X a b c z → X a b c z) → X a b c z
def LP4 (F : (Int → Int → Int → Int → Hp → Prop) → Int → Int → Int → Int → Hp → Prop) (a b c d : Int) (z : Hp) : Prop := ∀ X : Int → Int → Int → Int → Hp → Prop, (∀ a b c d z, F X a b c d z → X a b c d z) → X a b c d z
def LP5 (F : (Int → Int → Int → Int → Int → Hp → Prop) → Int → Int → Int → Int → Int → Hp → Prop) (a b c d e : Int) (z : Hp) : Prop := ∀ X : Int → Int → Int → Int → Int → Hp → Prop, (∀ a b c d e z, F X a b c d e z → X a b c d e z) → X a b c d e z
def LP6 (F : (Int → Int → Int → Int → Int → Int → Hp → Prop) → Int → Int → Int → Int → Int → Int → Hp → Prop) (a b c d e f : Int) (z : Hp) : Prop := ∀ X : Int → Int → Int → Int → Int → Int → Hp → Prop, (∀ a b c d e f z, F X a b c d e f z → X a b c d e f z) → X a b c d e f z
theorem kI_add (x y : Int) : Int32.ofInt x + Int32.ofInt y = Int32.ofInt (x + y) := (Int32.ofInt_add x y).symm
theorem kI_sub (x y : Int) : Int32.ofInt x - Int32.ofInt y = Int32.ofInt (x - y) := (Int32.ofInt_sub x y).symm
theorem kI_mul (x y : Int) : Int32.ofInt x * Int32.ofInt y = Int32.ofInt (x * y) := (Int32.ofInt_mul x y).symm
theorem kI_toInt {x : Int} (h : rg x) : (Int32.ofInt x).toInt = x := Int32.toInt_ofInt_of_le (by have := h.1; omega) (by have := h.2; omega)
theorem kI_lt {x y : Int} (hx : rg x) (hy : rg y) : (Int32.ofInt x < Int32.ofInt y) ↔ x < y := by rw [Int32.lt_iff_toInt_lt, kI_toInt hx, kI_toInt hy]
theorem kI_le {x y : Int} (hx : rg x) (hy : rg y) : (Int32.ofInt x ≤ Int32.ofInt y) ↔ x ≤ y := by rw [Int32.le_iff_toInt_le, kI_toInt hx, kI_toInt hy]
theorem kI_eq {x y : Int} (hx : rg x) (hy : rg y) : (Int32.ofInt x = Int32.ofInt y) ↔ x = y := by rw [← Int32.toInt_inj, kI_toInt hx, kI_toInt hy]
theorem kI_0 : (Int32.ofInt 0) = 0 := rfl
theorem rg0 : rg 0 := ⟨by decide, by decide⟩
theorem kI_clamp {i : Int} {n : Nat} (h : inb i n) (hn : n ≤ 2147483648) : (Int32.ofInt i).toNatClampNeg = i.toNat := by
  have h1 := h.1
  have h2 := h.2
  exact Int32.toNatClampNeg_ofInt_of_le (by omega) (by omega)
theorem kI_in {i : Int} {n : Nat} (h : inb i n) (hn : n ≤ 2147483648) : vp_in (Int32.ofInt i) n := by
  have h1 := h.1
  have h2 := h.2
  have h3 : (Int32.ofInt i).toInt = i := kI_toInt ⟨by omega, by omega⟩
  unfold vp_in
  rw [kI_clamp h hn, Int32.lt_iff_toInt_lt, h3, Int32.toInt_zero]
  omega
theorem kI_and (x y : Int) : Int32.ofInt (iand x y) = Int32.ofInt x &&& Int32.ofInt y := Int32.ofInt_toInt _
theorem kI_or (x y : Int) : Int32.ofInt (ior x y) = Int32.ofInt x ||| Int32.ofInt y := Int32.ofInt_toInt _
theorem kI_shl (x y : Int) : Int32.ofInt (ishl x y) = Int32.ofInt x <<< (Int32.ofInt y &&& 31) := Int32.ofInt_toInt _
theorem kI_shr (x y : Int) : Int32.ofInt (ishr x y) = Int32.ofInt x >>> (Int32.ofInt y &&& 31) := Int32.ofInt_toInt _
theorem kI_ushr (x y : Int) : Int32.ofInt (iushr x y) = ((Int32.ofInt x).toUInt32 >>> ((Int32.ofInt y).toUInt32 &&& Int32.toUInt32 31)).toInt32 := Int32.ofInt_toInt _
theorem kI_div {x y : Int} (hx : nn x) (hy : 0 < y ∧ y ≤ 2147483647) : Int32.ofInt x / Int32.ofInt y = Int32.ofInt (x / y) := by
  have a1 := hx.1
  have a2 := hx.2
  have b1 := hy.1
  have b2 := hy.2
  rw [← Int.tdiv_eq_ediv_of_nonneg a1]
  refine (Int32.ofInt_tdiv ?_ ?_ ?_ ?_).symm <;> first | (show (-2147483648 : Int) ≤ _; omega) | (show _ ≤ (2147483647 : Int); omega)
theorem kI_rem {x y : Int} (hx : nn x) (hy : 0 < y ∧ y ≤ 2147483647) : Int32.ofInt x - Int32.ofInt x / Int32.ofInt y * Int32.ofInt y = Int32.ofInt (x % y) := by
  rw [kI_div hx hy, kI_mul, kI_sub]
  congr 1
  have := Int.mul_ediv_add_emod x y
  rw [Int.mul_comm] at this
  omega
theorem kI_i2b {x : Int} (h : by8 x) : (Int32.ofInt x).toInt8.toInt32 = Int32.ofInt x := by
  have h1 := h.1
  have h2 := h.2
  rw [← Int32.toInt_inj]
  rw [kI_toInt ⟨by omega, by omega⟩, Int8.toInt_toInt32, Int32.toInt_toInt8, kI_toInt ⟨by omega, by omega⟩]
  exact Int.bmod_eq_of_le (by omega) (by omega)
theorem kI_i2l {x : Int} (h : rg x) : (Int32.ofInt x).toInt64 = Int64.ofInt x := by
  have h1 := h.1
  have h2 := h.2
  rw [← Int64.toInt_inj, Int32.toInt_toInt64, kI_toInt h, Int64.toInt_ofInt_of_le (by omega) (by omega)]
theorem kI_bool {x : Int} (h : bz x) : narrow .boolean (.int (Int32.ofInt x)) = .int (Int32.ofInt x) := by
  rcases h with rfl | rfl <;> decide +kernel
