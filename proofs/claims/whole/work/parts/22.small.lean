/-! the small methods of both sides -/
theorem w_t {P A B : Prop} (hp : P) (h : B) : P ∧ (if (1 : Int) = 0 then A else B) := ⟨hp, by rw [if_neg (by decide)]; exact h⟩
theorem w_f {P A B : Prop} (hp : P) (h : A) : P ∧ (if (0 : Int) = 0 then A else B) := ⟨hp, by rw [if_pos rfl]; exact h⟩
theorem rg1 : rg 1 := ⟨by decide, by decide⟩
theorem bz0 : bz 0 := Or.inl rfl
theorem bz1 : bz 1 := Or.inr rfl
/-- reading back what was written -/
theorem kup_eq {z : Hp} {c j : Nat} {x : Int} : kup z c j x c j = x := by unfold kup; rw [if_pos ⟨rfl, rfl⟩]
theorem kup_n {z : Hp} {c j a b : Nat} {x : Int} (h : ¬ (a = c ∧ b = j)) : kup z c j x a b = z a b := by unfold kup; rw [if_neg h]
theorem kup_c {z : Hp} {c j a b : Nat} {x : Int} (h : a ≠ c) : kup z c j x a b = z a b := kup_n (fun q => h q.1)
section
variable {z : Hp}
theorem w_X10_isIn {a b c : Int} {K : Int → Prop} (ha : rg a) (hb : rg b) (hc : rg c) (h1 : b ≤ a ∧ a ≤ c → K 1) (h0 : ¬ (b ≤ a ∧ a ≤ c) → K 0) : cal_X10_isIn a b c z K := by
  unfold cal_X10_isIn
  repeat' first | apply And.intro | split | omega
  all_goals first | exact h1 (by omega) | exact h0 (by omega)
theorem w_X10_isPerson {a : Int} {K : Int → Prop} (ha : rg a) (hn : rg (z 1 0 - 1)) (h1 : 0 ≤ a ∧ a < z 1 0 → K 1) (h0 : ¬ (0 ≤ a ∧ a < z 1 0) → K 0) : cal_X10_isPerson a z K :=
  w_X10_isIn ha rg0 hn (fun h => ⟨bz1, h1 (by omega)⟩) (fun h => ⟨bz0, h0 (by omega)⟩)
theorem w_X10_isStatement {a : Int} {K : Int → Prop} (ha : rg a) (hn : rg (z 1 1 - 1)) (h1 : 0 ≤ a ∧ a < z 1 1 → K 1) (h0 : ¬ (0 ≤ a ∧ a < z 1 1) → K 0) : cal_X10_isStatement a z K :=
  w_X10_isIn ha rg0 hn (fun h => ⟨bz1, h1 (by omega)⟩) (fun h => ⟨bz0, h0 (by omega)⟩)
theorem w_X10_areTwo {a b : Int} {K : Int → Prop} (ha : rg a) (hb : rg b) (hn : rg (z 1 0 - 1)) (h1 : (0 ≤ a ∧ a < z 1 0) ∧ (0 ≤ b ∧ b < z 1 0) → K 1) (h0 : ¬ ((0 ≤ a ∧ a < z 1 0) ∧ (0 ≤ b ∧ b < z 1 0)) → K 0) : cal_X10_areTwo a b z K :=
  w_X10_isPerson ha hn (fun h => w_t rg1 (w_X10_isPerson hb hn (fun h' => w_t rg1 (h1 ⟨h, h'⟩)) (fun h' => w_f rg0 (h0 (fun q => h' q.2))))) (fun h => w_f rg0 (h0 (fun q => h q.1)))
theorem w_X10_isEnd {a b c : Int} {K : Int → Prop} (ha : rg a) (hb : rg b) (hc : rg c) (hn : rg (z 1 0 - 1)) (h1 : (0 ≤ a ∧ a < z 1 0) ∧ (0 ≤ b ∧ b ≤ 1) ∧ (0 ≤ c ∧ c ≤ 1) → K 1) (h0 : ¬ ((0 ≤ a ∧ a < z 1 0) ∧ (0 ≤ b ∧ b ≤ 1) ∧ (0 ≤ c ∧ c ≤ 1)) → K 0) : cal_X10_isEnd a b c z K :=
  w_X10_isPerson ha hn (fun h => w_t rg1 (w_X10_isIn hb rg0 rg1 (fun h' => w_t rg1 (w_X10_isIn hc rg0 rg1 (fun h'' => w_t rg1 (h1 ⟨h, h', h''⟩)) (fun q => w_f rg0 (h0 (fun r => q r.2.2))))) (fun q => w_f rg0 (h0 (fun r => q r.2.1))))) (fun q => w_f rg0 (h0 (fun r => q r.1)))
theorem w_X10_isLink {a b : Int} {K : Int → Prop} (ha : rg a) (hb : rg b) (h1 : (0 ≤ a ∧ a ≤ 99) ∧ (0 ≤ b ∧ b ≤ 2) → K 1) (h0 : ¬ ((0 ≤ a ∧ a ≤ 99) ∧ (0 ≤ b ∧ b ≤ 2)) → K 0) : cal_X10_isLink a b z K :=
  w_X10_isIn ha rg0 ⟨by decide, by decide⟩ (fun h => w_t rg1 (w_X10_isIn hb rg0 ⟨by decide, by decide⟩ (fun h' => w_t rg1 (h1 ⟨h, h'⟩)) (fun q => w_f rg0 (h0 (fun r => q r.2))))) (fun q => w_f rg0 (h0 (fun r => q r.1)))
theorem w_X10_isList {a : Int} {K : Int → Prop} (ha : rg a) (h1 : 0 ≤ a ∧ a ≤ 3 → K 1) (h0 : ¬ (0 ≤ a ∧ a ≤ 3) → K 0) : cal_X10_isList a z K :=
  w_X10_isIn ha rg0 ⟨by decide, by decide⟩ (fun h => ⟨bz1, h1 h⟩) (fun h => ⟨bz0, h0 h⟩)
theorem w_X10_isOfTwo {a : Int} {K : Int → Prop} (ha : rg a) (h1 : a ≠ 0 ∧ a ≠ 1 ∧ a ≠ 6 → K 1) (h0 : ¬ (a ≠ 0 ∧ a ≠ 1 ∧ a ≠ 6) → K 0) : cal_X10_isOfTwo a z K := by
  unfold cal_X10_isOfTwo
  repeat' first | apply And.intro | split | omega
  all_goals first | exact h1 (by omega) | exact h0 (by omega)
theorem w_X10_isOfYears {a : Int} {K : Int → Prop} (ha : rg a) (h1 : a = 0 ∨ a = 1 ∨ a = 4 → K 1) (h0 : ¬ (a = 0 ∨ a = 1 ∨ a = 4) → K 0) : cal_X10_isOfYears a z K := by
  unfold cal_X10_isOfYears jn
  repeat' first | apply And.intro | split | omega
  all_goals first | exact h1 (by omega) | exact h0 (by omega)
theorem w_X10_has {a i : Nat} {K : Int → Prop} (ha : a < 1073741824) (hi : i < 32) (h1 : a.testBit i = true → K 1) (h0 : a.testBit i = false → K 0) : cal_X10_has a i z K := by
  unfold cal_X10_has
  rw [bit_shr (by omega) hi]
  cases h : a.testBit i with
  | true => exact ⟨rg1, by rw [if_pos rfl]; exact h1 h⟩
  | false => exact ⟨rg0, by rw [if_neg (by decide)]; exact h0 h⟩
theorem w_X10_told {t w : Nat} {K : Int → Prop} (h : 242 + 6 * t + w < 608) (k : K (z 1 (242 + 6 * t + w))) : cal_X10_told t w z K := by
  refine ⟨by constructor <;> omega, ?_⟩
  rw [show (242 + 6 * (t : Int) + (w : Int)).toNat = 242 + 6 * t + w by omega]
  exact k
theorem w_X10_isLive {t s : Nat} {K : Int → Prop} (h : 242 + 6 * t + 5 < 608) (hs : rg s) (r5 : rg (z 1 (242 + 6 * t + 5))) (r0 : rg (z 1 (242 + 6 * t))) (h1 : z 1 (242 + 6 * t + 5) = 1 ∧ z 1 (242 + 6 * t) = s → K 1) (h0 : ¬ (z 1 (242 + 6 * t + 5) = 1 ∧ z 1 (242 + 6 * t) = s) → K 0) : cal_X10_isLive t s z K := by
  unfold cal_X10_isLive
  refine w_X10_told (w := 5) h (w_if r5 (fun e => w_X10_told (w := 0) (by omega) ⟨r0, hs, ?_⟩) (fun e => h0 (fun q => e q.1)))
  exact w_ite (fun e' => h1 ⟨e, e'⟩) (fun e' => h0 (fun q => e' q.2))
theorem w_X10_isOne {p : Nat} {K : Int → Prop} (hp : p < 30) (r : rg (z 6 p)) (h1 : z 6 p = p → K 1) (h0 : z 6 p ≠ p → K 0) : cal_X10_isOne p z K := by
  unfold cal_X10_isOne
  rw [Int.toNat_natCast]
  refine ⟨⟨by omega, by omega⟩, r, ⟨by omega, by omega⟩, w_ite h1 h0⟩
theorem w_X10_toldRange {a : Int} {K : Int → Prop} (ha : rg a) (k : K (if a < 60 then a else 140 + a)) : cal_X10_toldRange a z K := by
  refine ⟨ha, ?_⟩
  by_cases h : 60 ≤ a
  · rw [if_pos h]; rw [if_neg (by omega)] at k; rw [show 200 + a - 60 = 140 + a by omega]; exact k
  · rw [if_neg h]; rw [if_pos (by omega)] at k; exact k
theorem w_X3_tellRange {a : Int} {K : Int → Prop} (ha : rg a) (k : K (if a < 60 then a else 140 + a)) : cal_X3_tellRange a z K := w_X10_toldRange (z := z) ha k
theorem w_X0_isPerson {t : Nat} {a : Int} {K : Int → Prop} (ha : rg a) (hn : rg (z t 0)) (h1 : 0 ≤ a ∧ a < z t 0 → K 1) (h0 : ¬ (0 ≤ a ∧ a < z t 0) → K 0) : cal_X0_isPerson t a z K := by
  unfold cal_X0_isPerson
  repeat' first | apply And.intro | split | omega
  all_goals first | exact h1 (by omega) | exact h0 (by omega)
theorem w_X0_isStatement {t : Nat} {a : Int} {K : Int → Prop} (ha : rg a) (hn : rg (z t 1)) (h1 : 0 ≤ a ∧ a < z t 1 → K 1) (h0 : ¬ (0 ≤ a ∧ a < z t 1) → K 0) : cal_X0_isStatement t a z K := by
  unfold cal_X0_isStatement
  repeat' first | apply And.intro | split | omega
  all_goals first | exact h1 (by omega) | exact h0 (by omega)
theorem w_X9_isFlag {a : Int} {K : Int → Prop} (ha : rg a) (h1 : 0 ≤ a ∧ a ≤ 1 → K 1) (h0 : ¬ (0 ≤ a ∧ a ≤ 1) → K 0) : cal_X9_isFlag a z K := by
  unfold cal_X9_isFlag jn
  repeat' first | apply And.intro | split | omega
  all_goals first | exact h1 (by omega) | exact h0 (by omega)
theorem w_X9_isSex {a : Int} {K : Int → Prop} (ha : rg a) (h1 : 0 ≤ a ∧ a ≤ 2 → K 1) (h0 : ¬ (0 ≤ a ∧ a ≤ 2) → K 0) : cal_X9_isSex a z K := by
  unfold cal_X9_isSex
  repeat' first | apply And.intro | split | omega
  all_goals first | exact h1 (by omega) | exact h0 (by omega)
theorem w_X9_isLinkPart {a b : Int} {K : Int → Prop} (ha : rg a) (hb : rg b) (h1 : (0 ≤ a ∧ a ≤ 99) ∧ (0 ≤ b ∧ b ≤ 2) → K 1) (h0 : ¬ ((0 ≤ a ∧ a ≤ 99) ∧ (0 ≤ b ∧ b ≤ 2)) → K 0) : cal_X9_isLinkPart a b z K := by
  unfold cal_X9_isLinkPart
  repeat' first | apply And.intro | split | omega
  all_goals first | exact h1 (by omega) | exact h0 (by omega)
theorem w_X9_arePersons {a b : Int} {K : Int → Prop} (ha : rg a) (hb : rg b) (hn : rg (z 1 0)) (h1 : (0 ≤ a ∧ a < z 1 0) ∧ (0 ≤ b ∧ b < z 1 0) → K 1) (h0 : ¬ ((0 ≤ a ∧ a < z 1 0) ∧ (0 ≤ b ∧ b < z 1 0)) → K 0) : cal_X9_arePersons a b z K :=
  w_X0_isPerson ha hn (fun h => w_t rg1 (w_X0_isPerson hb hn (fun h' => w_t rg1 (h1 ⟨h, h'⟩)) (fun h' => w_f rg0 (h0 (fun q => h' q.2))))) (fun h => w_f rg0 (h0 (fun q => h q.1)))
theorem w_X9_isEnd {a b c : Int} {K : Int → Prop} (ha : rg a) (hb : rg b) (hc : rg c) (hn : rg (z 1 0)) (h1 : (0 ≤ a ∧ a < z 1 0) ∧ (0 ≤ b ∧ b ≤ 1) ∧ (0 ≤ c ∧ c ≤ 1) → K 1) (h0 : ¬ ((0 ≤ a ∧ a < z 1 0) ∧ (0 ≤ b ∧ b ≤ 1) ∧ (0 ≤ c ∧ c ≤ 1)) → K 0) : cal_X9_isEnd a b c z K :=
  w_X0_isPerson ha hn (fun h => w_t rg1 (w_X9_isFlag hb (fun h' => w_t rg1 (w_X9_isFlag hc (fun h'' => w_t rg1 (h1 ⟨h, h', h''⟩)) (fun q => w_f rg0 (h0 (fun r => q r.2.2))))) (fun q => w_f rg0 (h0 (fun r => q r.2.1))))) (fun q => w_f rg0 (h0 (fun r => q r.1)))
theorem w_X1_has {a i : Nat} {K : Int → Prop} (ha : a < 1073741824) (hi : i < 32) (h1 : a.testBit i = true → K 1) (h0 : a.testBit i = false → K 0) : cal_X1_has a i z K := by
  unfold cal_X1_has
  rw [bit_ushr (by omega) hi]
  cases h : a.testBit i with
  | true => exact ⟨rg1, by rw [if_neg (by decide)]; exact h1 h⟩
  | false => exact ⟨rg0, by rw [if_pos (by decide)]; exact h0 h⟩
theorem w_X2_isList {t : Nat} {a : Int} {K : Int → Prop} (ha : rg a) (h1 : 0 ≤ a ∧ a ≤ 3 → K 1) (h0 : ¬ (0 ≤ a ∧ a ≤ 3) → K 0) : cal_X2_isList t a z K := by
  unfold cal_X2_isList
  repeat' first | apply And.intro | split | omega
  all_goals first | exact h1 (by omega) | exact h0 (by omega)
theorem w_X4_tellsHigh {a : Int} {K : Int → Prop} (ha : rg a) (h1 : a = 0 ∨ a = 1 ∨ a = 4 → K 1) (h0 : ¬ (a = 0 ∨ a = 1 ∨ a = 4) → K 0) : cal_X4_tellsHigh a z K := by
  unfold cal_X4_tellsHigh jn
  repeat' first | apply And.intro | split | omega
  all_goals first | exact h1 (by omega) | exact h0 (by omega)
theorem w_X4_tellsLow {a : Int} {K : Int → Prop} (ha : rg a) (h1 : a = 0 ∨ a = 1 ∨ a = 4 ∨ a = 6 ∨ a = 7 → K 1) (h0 : ¬ (a = 0 ∨ a = 1 ∨ a = 4 ∨ a = 6 ∨ a = 7) → K 0) : cal_X4_tellsLow a z K := by
  unfold cal_X4_tellsLow jn
  refine w_if ha (fun e => h1 (by omega)) (fun e => w_if ha (fun e => h1 (by omega)) (fun e' => w_X4_tellsHigh ha (fun q => w_t rg1 (h1 (by omega))) (fun q => w_f rg0 (h0 (by omega)))))
theorem w_X4_tellsTwo {a : Int} {K : Int → Prop} (ha : rg a) (h1 : a = 2 ∨ a = 3 ∨ a = 4 ∨ a = 5 ∨ a = 7 → K 1) (h0 : ¬ (a = 2 ∨ a = 3 ∨ a = 4 ∨ a = 5 ∨ a = 7) → K 0) : cal_X4_tellsTwo a z K := by
  unfold cal_X4_tellsTwo jn
  repeat' first | apply And.intro | split | omega
  all_goals first | exact h1 (by omega) | exact h0 (by omega)
end
