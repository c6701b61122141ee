theorem LkS.bd {c : Int} {P : Nat → Prop} {Q : Prop} {j : Nat} {cl wh : Int} {old : Int → Int → Prop} (h : LkS c P Q j cl wh old) (hc : 0 ≤ c ∧ c ≤ 3) (ho : ∀ cl wh, old cl wh → 0 ≤ cl ∧ cl ≤ 3) : 0 ≤ cl ∧ cl ≤ 3 := by
  rcases h with ⟨h0, _⟩ | ⟨h0, _⟩ | ⟨_, h0⟩
  · omega
  · omega
  · exact ho _ _ h0
/-- the next sort is looked for -/
theorem LkS.next {c c' : Int} {P P' : Nat → Prop} {Q : Prop} {n : Nat} {cl wh : Int} {old : Int → Int → Prop} (hc : c ≠ 0) (h : LkS c P Q n cl wh old) : LkS c' P' (Q ∧ ∀ q, q < n → ¬ P q) 0 cl wh (fun cl wh => LkS c P Q n cl wh old) := by
  by_cases e : cl = 0
  · subst e
    have h' := h.cl0 hc
    exact Or.inl ⟨rfl, h'.1, ⟨h'.2.1, h'.2.2⟩, fun q hq => absurd hq (by omega)⟩
  · exact Or.inr (Or.inr ⟨e, h⟩)
def LkIs' (n : Nat) (P1 P2 P3 : Nat → Prop) (cl wh : Int) : Prop :=
  LkS 3 P3 ((True ∧ ∀ q, q < n → ¬ P1 q) ∧ ∀ q, q < n → ¬ P2 q) n cl wh (fun cl wh => LkS 2 P2 (True ∧ ∀ q, q < n → ¬ P1 q) n cl wh (fun cl wh => LkS 1 P1 True n cl wh (fun _ _ => False)))
theorem LFr.rf {z : Hp} : LFr z z := ⟨fun _ _ _ => rfl, fun _ _ => rfl⟩
theorem w_X10_looks {z : Hp} {K : Hp → Prop} {M : Nat} {S : Nat → Int} {g mo fa ab : Nat → Nat} (h : SOk M S) (hS : z 1 = S) (h6 : Row z 6 g) (h7 : Row z 7 mo) (h8 : Row z 8 fa) (h9 : Row z 9 ab) (hg : ∀ p, p < 30 → g p < 30) (hm : ∀ p, p < 30 → mo p < 1073741824) (hf : ∀ p, p < 30 → fa p < 1073741824) (ha : ∀ p, p < 30 → ab p < 1073741824) (hcl : z 0 17 = 0) (hwh : z 0 18 = -5) (k : ∀ z' : Hp, LkIs' (sN S) (fun p => g p = p ∧ sxR S g mo fa p (sN S) = 3) (fun p => 1 < cntB (mo p) 30 ∨ 1 < cntB (fa p) 30) (fun p => (ab p).testBit p = true) (z' 0 17) (z' 0 18) → LFr z z' → K z') : cal_X10_looks z K := by
  obtain ⟨hn0, hn⟩ := h.n
  have b1 : ∀ (j : Nat) (cl wh : Int), LkS 1 (fun p => g p = p ∧ sxR S g mo fa p (sN S) = 3) True j cl wh (fun _ _ => False) → 0 ≤ cl ∧ cl ≤ 3 := fun j cl wh q => q.bd (by decide) (fun _ _ r => r.elim)
  have b2 : ∀ (j : Nat) (cl wh : Int), LkS 2 (fun p => 1 < cntB (mo p) 30 ∨ 1 < cntB (fa p) 30) (True ∧ ∀ q, q < sN S → ¬ (g q = q ∧ sxR S g mo fa q (sN S) = 3)) j cl wh (fun cl wh => LkS 1 (fun p => g p = p ∧ sxR S g mo fa p (sN S) = 3) True (sN S) cl wh (fun _ _ => False)) → 0 ≤ cl ∧ cl ≤ 3 := fun j cl wh q => q.bd (by decide) (fun _ _ r => b1 _ _ _ r)
  show LP1 _ 0 z
  refine LP1_for (sN S) (fun j z' => LkS 1 (fun p => g p = p ∧ sxR S g mo fa p (sN S) = 3) True j (z' 0 17) (z' 0 18) (fun _ _ => False) ∧ LFr z z') 0 rfl (by omega) ⟨Or.inl ⟨hcl, hwh, trivial, fun q hq => absurd hq (by omega)⟩, LFr.rf⟩ (fun X j z1 hj hI hX => ?_) (fun X z1 hI => ?_)
  · obtain ⟨i1, i2⟩ := hI
    have e1 : z1 1 = S := by rw [i2.2 1 (by decide), hS]
    have e6 := h6.to (i2.2 6 (by decide))
    have rr := b1 _ _ _ i1
    have vj := e6 j (by omega)
    have gj := hg j (by omega)
    refine w_if2 ⟨by omega, by omega⟩ (by rw [e1]; constructor <;> omega) (fun e => absurd e (by rw [e1]; omega)) (fun _ => ?_)
    refine w_X10_isOne (by omega) (by rw [vj]; constructor <;> omega) (fun q => ?_) (fun q => ?_)
    · have q : g j = j := by omega
      refine w_t rg1 (w_X10_sexes h e1 (by omega) e6 (h7.to (i2.2 7 (by decide))) (h8.to (i2.2 8 (by decide))) hg hm hf ?_)
      have sl := sxR_lt (g := g) (mo := mo) (fa := fa) (q := j) (sN S) (fun p hp => (h.2.2.1 p hp).2)
      refine w_if ⟨by omega, by omega⟩ (fun c => ?_) (fun c => lt_i (hX z1 ⟨i1.no (fun r => c (by omega)), i2⟩))
      exact w_X10_clashes (by decide) ⟨by omega, by omega⟩ i1 ⟨q, by omega⟩ (fun z' q1 q2 => lt_i (hX z' ⟨q1, i2.tr q2⟩))
    · exact w_f rg0 (lt_i (hX z1 ⟨i1.no (fun r => q (by omega)), i2⟩))
  obtain ⟨i1, i2⟩ := hI
  have e1 : z1 1 = S := by rw [i2.2 1 (by decide), hS]
  refine w_if2 ⟨by omega, by omega⟩ (by rw [e1]; constructor <;> omega) (fun _ => ?_) (fun e => absurd e (by rw [e1]; omega))
  show LP1 _ 0 z1
  refine LP1_for (sN S) (fun j z' => LkS 2 (fun p => 1 < cntB (mo p) 30 ∨ 1 < cntB (fa p) 30) (True ∧ ∀ q, q < sN S → ¬ (g q = q ∧ sxR S g mo fa q (sN S) = 3)) j (z' 0 17) (z' 0 18) (fun cl wh => LkS 1 (fun p => g p = p ∧ sxR S g mo fa p (sN S) = 3) True (sN S) cl wh (fun _ _ => False)) ∧ LFr z z') 0 rfl (by omega) ⟨i1.next (by decide), i2⟩ (fun X j z1 hj hI hX => ?_) (fun X z1 hI => ?_)
  · obtain ⟨i1, i2⟩ := hI
    have e1 : z1 1 = S := by rw [i2.2 1 (by decide), hS]
    have rr := b2 _ _ _ i1
    refine w_if2 ⟨by omega, by omega⟩ (by rw [e1]; constructor <;> omega) (fun e => absurd e (by rw [e1]; omega)) (fun _ => ⟨⟨by omega, by omega⟩, ?_⟩)
    rw [Int.toNat_natCast, (h7.to (i2.2 7 (by decide))) j (by omega)]
    have u1 := cntB_ub (mo j) 30
    have u2 := cntB_ub (fa j) 30
    refine w_X10_ones (hm j (by omega)) ?_
    have yes : (1 < cntB (mo j) 30 ∨ 1 < cntB (fa j) 30) → cal_X10_clashes 2 j z1 (fun z' => lt1 ((j : Int) + 1) (fun v => X v z')) := fun c => w_X10_clashes (by decide) ⟨by omega, by omega⟩ i1 c (fun z' q1 q2 => lt_i (hX z' ⟨q1, i2.tr q2⟩))
    refine ⟨⟨by omega, by omega⟩, w_ite (fun c => yes (Or.inl (by omega))) (fun c => ⟨⟨by omega, by omega⟩, ?_⟩)⟩
    rw [(h8.to (i2.2 8 (by decide))) j (by omega)]
    refine w_X10_ones (hf j (by omega)) (w_if ⟨by omega, by omega⟩ (fun c' => lt_i (hX z1 ⟨i1.no (fun r => by omega), i2⟩)) (fun c' => yes (Or.inr (by omega))))
  obtain ⟨i1, i2⟩ := hI
  have e1 : z1 1 = S := by rw [i2.2 1 (by decide), hS]
  refine w_if2 ⟨by omega, by omega⟩ (by rw [e1]; constructor <;> omega) (fun _ => ?_) (fun e => absurd e (by rw [e1]; omega))
  show LP1 _ 0 z1
  refine LP1_for (sN S) (fun j z' => LkS 3 (fun p => (ab p).testBit p = true) ((True ∧ ∀ q, q < sN S → ¬ (g q = q ∧ sxR S g mo fa q (sN S) = 3)) ∧ ∀ q, q < sN S → ¬ (1 < cntB (mo q) 30 ∨ 1 < cntB (fa q) 30)) j (z' 0 17) (z' 0 18) (fun cl wh => LkS 2 (fun p => 1 < cntB (mo p) 30 ∨ 1 < cntB (fa p) 30) (True ∧ ∀ q, q < sN S → ¬ (g q = q ∧ sxR S g mo fa q (sN S) = 3)) (sN S) cl wh (fun cl wh => LkS 1 (fun p => g p = p ∧ sxR S g mo fa p (sN S) = 3) True (sN S) cl wh (fun _ _ => False))) ∧ LFr z z') 0 rfl (by omega) ⟨i1.next (by decide), i2⟩ (fun X j z1 hj hI hX => ?_) (fun X z1 hI => ?_)
  · obtain ⟨i1, i2⟩ := hI
    have e1 : z1 1 = S := by rw [i2.2 1 (by decide), hS]
    have rr := i1.bd (by decide) (fun _ _ r => b2 _ _ _ r)
    refine w_if2 ⟨by omega, by omega⟩ (by rw [e1]; constructor <;> omega) (fun e => absurd e (by rw [e1]; omega)) (fun _ => ⟨⟨by omega, by omega⟩, ?_⟩)
    rw [Int.toNat_natCast, (h9.to (i2.2 9 (by decide))) j (by omega)]
    refine w_X10_has (ha j (by omega)) (by omega) (fun hb => w_t rg1 ?_) (fun hb => w_f rg0 (lt_i (hX z1 ⟨i1.no (by rw [hb]; decide), i2⟩)))
    exact w_X10_clashes (by decide) ⟨by omega, by omega⟩ i1 hb (fun z' q1 q2 => lt_i (hX z' ⟨q1, i2.tr q2⟩))
  · obtain ⟨i1, i2⟩ := hI
    have e1 : z1 1 = S := by rw [i2.2 1 (by decide), hS]
    exact w_if2 ⟨by omega, by omega⟩ (by rw [e1]; constructor <;> omega) (fun _ => k z1 i1 i2) (fun e => absurd e (by rw [e1]; omega))
