/-! the reference's counting of bits and of sexes -/
theorem w_X10_ones {a : Nat} {z : Hp} {K : Int → Prop} (ha : a < 1073741824) (k : K (cntB a 30 : Nat)) : cal_X10_ones a z K := by
  show LQ2 _ 0 0
  refine LQ2_for 30 (fun j v => v = ((cntB a j : Nat) : Int)) 0 rfl (by omega) rfl (fun X j v hj hv hX => ?_) (fun X v hv => ?_)
  · refine w_if ⟨by omega, by omega⟩ (fun e => absurd e (by omega)) (fun _ => lt_i (lt_i (hX _ ?_)))
    rw [hv, bit_shr (by omega) (by omega), cntB]
    by_cases c : a.testBit j = true
    · rw [if_pos c, if_pos c]; omega
    · rw [if_neg c, if_neg c]; omega
  · subst hv
    exact w_if ⟨by omega, by omega⟩ (fun _ => k) (fun e => absurd e (by omega))
def sxR (S : Nat → Int) (g mo fa : Nat → Nat) (q : Nat) : Nat → Nat
  | 0 => 0
  | k + 1 => ((sxR S g mo fa q k ||| (if g k = q then (pX S k).toNat else 0)) ||| (if (mo k).testBit q then 1 else 0)) ||| (if (fa k).testBit q then 2 else 0)
theorem sxR_lt {S : Nat → Int} {g mo fa : Nat → Nat} {q : Nat} : ∀ k, (∀ p, p < k → 0 ≤ pX S p ∧ pX S p ≤ 2) → sxR S g mo fa q k < 4
  | 0, _ => (by decide : 0 < 4)
  | k + 1, h => by
    have ih := sxR_lt (g := g) (mo := mo) (fa := fa) (q := q) k (fun p hp => h p (by omega))
    have hp := h k (by omega)
    rw [sxR]
    refine Nat.or_lt_two_pow (n := 2) (Nat.or_lt_two_pow (n := 2) (Nat.or_lt_two_pow (n := 2) ih ?_) ?_) ?_
    · split <;> omega
    · split <;> omega
    · split <;> omega
theorem w_X10_sexes {z : Hp} {K : Int → Prop} {M q : Nat} {S : Nat → Int} {g mo fa : Nat → Nat} (h : SOk M S) (hS : z 1 = S) (hq : q < 30) (h6 : Row z 6 g) (h7 : Row z 7 mo) (h8 : Row z 8 fa) (hg : ∀ p, p < 30 → g p < 30) (hm : ∀ p, p < 30 → mo p < 1073741824) (hf : ∀ p, p < 30 → fa p < 1073741824) (k : K (sxR S g mo fa q (sN S) : Nat)) : cal_X10_sexes q z K := by
  obtain ⟨hn0, hn⟩ := h.n
  show LQ2 _ 0 0
  refine LQ2_for (sN S) (fun j v => v = ((sxR S g mo fa q j : Nat) : Int)) 0 rfl (by omega) rfl (fun X j v hj hv hX => ?_) (fun X v hv => ?_)
  · have hpx : ∀ p, p < j + 1 → 0 ≤ pX S p ∧ pX S p ≤ 2 := fun p hp => (h.2.2.1 p (by omega)).2
    have l0 := sxR_lt (g := g) (mo := mo) (fa := fa) (q := q) j (fun p hp => hpx p (by omega))
    have pj := hpx j (by omega)
    have gj := hg j (by omega)
    refine w_if2 ⟨by omega, by omega⟩ (by rw [hS]; constructor <;> omega) (fun e => absurd e (by rw [hS]; omega)) (fun _ => ⟨⟨by omega, by omega⟩, ?_⟩)
    rw [Int.toNat_natCast, h6 j (by omega)]
    refine jn_i (fun J => J ((sxR S g mo fa q j ||| (if g j = q then (pX S j).toNat else 0) : Nat) : Int)) ?_ (fun J hJ => ?_)
    rotate_left
    · refine ⟨⟨by omega, by omega⟩, ⟨by omega, by omega⟩, w_ite (fun e => ?_) (fun e => ?_)⟩
      · rw [if_pos (by omega)] at hJ
        refine ⟨⟨by omega, by omega⟩, ?_⟩
        rw [show (2 + 8 * (j : Int) + 7).toNat = 2 + 8 * j + 7 by omega, hS, hv]
        show lt1 (ior _ (pX S j)) _
        rw [show pX S j = ((pX S j).toNat : Int) by omega, ior_n (by omega) (by omega)]
        exact lt_i hJ
      · rw [if_neg (by omega), Nat.or_zero] at hJ
        rw [hv]; exact hJ
    have l1 : (sxR S g mo fa q j ||| (if g j = q then (pX S j).toNat else 0)) < 4 := Nat.or_lt_two_pow (n := 2) l0 (by split <;> omega)
    have ee : sxR S g mo fa q (j + 1) = ((sxR S g mo fa q j ||| (if g j = q then (pX S j).toNat else 0)) ||| (if (mo j).testBit q then 1 else 0)) ||| (if (fa j).testBit q then 2 else 0) := rfl
    generalize (sxR S g mo fa q j ||| (if g j = q then (pX S j).toNat else 0)) = w at *
    refine ⟨⟨by omega, by omega⟩, ?_⟩
    rw [h7 j (by omega)]
    have fin : ∀ u : Nat, u < 4 → u = w ||| (if (mo j).testBit q then 1 else 0) → inb (j : Int) 30 ∧ cal_X10_has (z 8 j) q z (fun v11 => jn (fun J13 : Int → Prop => rg v11 ∧ if v11 = 0 then (lt1 (ior u 0) (fun v15 => J13 v15)) else (lt1 (ior u 2) (fun v16 => J13 v16))) (fun v12 => lt1 ((j : Int) + 1) (fun v14 => X v12 v14))) := fun u hu eu => by
      refine ⟨⟨by omega, by omega⟩, ?_⟩
      rw [h8 j (by omega)]
      refine w_X10_has (hf j (by omega)) (by omega) (fun hb => w_t rg1 (lt_i (lt_i (hX _ ?_)))) (fun hb => w_f rg0 (lt_i (lt_i (hX _ ?_))))
      · rw [ee, ← eu, if_pos hb, show (2 : Int) = ((2 : Nat) : Int) from rfl, ior_n (by omega) (by decide)]
      · rw [ee, ← eu, hb, if_neg (by decide), Nat.or_zero, ior_z (by omega)]
    refine w_X10_has (hm j (by omega)) (by omega) (fun hb => w_t rg1 (lt_i ?_)) (fun hb => w_f rg0 (lt_i ?_))
    · rw [show (1 : Int) = ((1 : Nat) : Int) from rfl, ior_n (by omega) (by decide)]
      exact fin _ (Nat.or_lt_two_pow (n := 2) l1 (by decide)) (by rw [if_pos hb])
    · rw [ior_z (by omega)]
      exact fin _ l1 (by rw [hb, if_neg (by decide), Nat.or_zero])
  · subst hv
    exact w_if2 ⟨by omega, by omega⟩ (by rw [hS]; constructor <;> omega) (fun _ => k) (fun e => absurd e (by rw [hS]; omega))
