/-! those above by ways over more and more; generations -/
def mxO (h : Nat → Nat) (s : Nat) : Nat → Nat
  | 0 => 0
  | k + 1 => if s.testBit k then max (mxO h s k) (h k + 1) else mxO h s k
theorem mxO_cg {h h' : Nat → Nat} {s : Nat} : ∀ k, (∀ q, q < k → s.testBit q = true → h q = h' q) → mxO h s k = mxO h' s k
  | 0, _ => rfl
  | k + 1, e => by
    have ih := mxO_cg k (fun q hq => e q (by omega))
    unfold mxO
    by_cases c : s.testBit k = true
    · rw [if_pos c, if_pos c, ih, e k (by omega) c]
    · rw [if_neg c, if_neg c, ih]
theorem mxO_le {h : Nat → Nat} {s b : Nat} : ∀ k, (∀ q, q < k → s.testBit q = true → h q + 1 ≤ b) → mxO h s k ≤ b
  | 0, _ => Nat.zero_le _
  | k + 1, e => by
    have ih := mxO_le k (fun q hq => e q (by omega))
    unfold mxO
    by_cases c : s.testBit k = true
    · rw [if_pos c]; have := e k (by omega) c; omega
    · rw [if_neg c]; exact ih
theorem le_mxO {h : Nat → Nat} {s q : Nat} : ∀ k, q < k → s.testBit q = true → h q + 1 ≤ mxO h s k
  | 0, hq, _ => absurd hq (by omega)
  | k + 1, hq, hs => by
    unfold mxO
    by_cases e : q = k
    · subst e; rw [if_pos hs]; omega
    · have ih := le_mxO (h := h) k (by omega) hs
      split <;> omega
def hgt (pr : Nat → Nat) : Nat → Nat → Nat
  | 0, _ => 0
  | k + 1, p => mxO (hgt pr k) (pr p) 30
theorem hgt_le (pr : Nat → Nat) : ∀ k p, hgt pr k p ≤ k
  | 0, _ => Nat.le_refl _
  | k + 1, p => mxO_le 30 (fun q _ _ => by have := hgt_le pr k q; omega)
def cntB (s : Nat) : Nat → Nat
  | 0 => 0
  | k + 1 => cntB s k + (if s.testBit k then 1 else 0)
theorem cntB_le {s s' : Nat} (h : ∀ i, s.testBit i = true → s'.testBit i = true) : ∀ k, cntB s k ≤ cntB s' k
  | 0 => Nat.le_refl _
  | k + 1 => by
    have ih := cntB_le h k
    unfold cntB
    by_cases c : s.testBit k = true
    · rw [if_pos c, if_pos (h k c)]; omega
    · rw [if_neg c]; split <;> omega
theorem cntB_lt {s s' q : Nat} (h : ∀ i, s.testBit i = true → s'.testBit i = true) (h1 : s'.testBit q = true) (h0 : s.testBit q = false) : ∀ k, q < k → cntB s k < cntB s' k
  | 0, hq => absurd hq (by omega)
  | k + 1, hq => by
    have le := cntB_le h k
    unfold cntB
    by_cases e : q = k
    · subst e; rw [if_pos h1, if_neg (by rw [h0]; decide)]; omega
    · have ih := cntB_lt h h1 h0 k (by omega)
      by_cases c : s.testBit k = true
      · rw [if_pos c, if_pos (h k c)]; omega
      · rw [if_neg c]; split <;> omega
theorem cntB_ub (s : Nat) : ∀ k, cntB s k ≤ k
  | 0 => Nat.le_refl _
  | k + 1 => by have := cntB_ub s k; unfold cntB; split <;> omega
theorem cntB_ub' {s p : Nat} (h : s.testBit p = false) : ∀ k, p < k → cntB s k < k
  | 0, hp => absurd hp (by omega)
  | k + 1, hp => by
    unfold cntB
    by_cases e : p = k
    · subst e; have := cntB_ub s p; rw [if_neg (by rw [h]; decide)]; omega
    · have := cntB_ub' h k (by omega); split <;> omega
/-- a rank that falls on the way up, where nobody is above itself -/
theorem rank_lt {n : Nat} {pr ab : Nat → Nat} (hn : n ≤ 30) (ha : IsAb n pr ab) (hc : ∀ p, p < 30 → (ab p).testBit p = false) {p q : Nat} (hp : p < 30) (hq : (pr p).testBit q = true) : q < n ∧ cntB (ab q) n < cntB (ab p) n := by
  have hpq : (ab p).testBit q = true := ((ha p hp).2 q).mpr (Rch.one hq)
  have hqn := tb_n (ha p hp).1 hpq
  exact ⟨hqn, cntB_lt (fun i hi => ((ha p hp).2 i).mpr ((Rch.one hq).tr (((ha q (by omega)).2 i).mp hi))) hpq (hc q (by omega)) n hqn⟩
theorem hgt_stab {n : Nat} {pr ab : Nat → Nat} (hn : n ≤ 30) (ha : IsAb n pr ab) (hc : ∀ p, p < 30 → (ab p).testBit p = false) : ∀ k p, p < 30 → cntB (ab p) n ≤ k → hgt pr (k + 1) p = hgt pr k p
  | 0, p, hp, h => by
    show mxO (hgt pr 0) (pr p) 30 = 0
    refine Nat.le_zero.mp (mxO_le 30 (fun q hq hb => ?_))
    have := rank_lt hn ha hc hp hb
    omega
  | k + 1, p, hp, h => by
    show mxO (hgt pr (k + 1)) (pr p) 30 = mxO (hgt pr k) (pr p) 30
    refine mxO_cg 30 (fun q hq hb => hgt_stab hn ha hc k q hq ?_)
    have := rank_lt hn ha hc hp hb
    omega
theorem hgt_fix {n : Nat} {pr ab : Nat → Nat} (hn : n ≤ 30) (ha : IsAb n pr ab) (hc : ∀ p, p < 30 → (ab p).testBit p = false) {p : Nat} (hp : p < 30) : mxO (hgt pr 30) (pr p) 30 = hgt pr 30 p :=
  hgt_stab hn ha hc 30 p hp (by have := cntB_ub (ab p) n; omega)
theorem rank_ub {n : Nat} {pr ab : Nat → Nat} (ha : IsAb n pr ab) (hc : ∀ p, p < 30 → (ab p).testBit p = false) {p : Nat} (hp : p < n) (hn : n ≤ 30) : cntB (ab p) n < n := cntB_ub' (hc p (by omega)) n hp
/-- the first of the places below n where P holds, -5 if none -/
def IsFst (n : Nat) (P : Nat → Prop) (v : Int) : Prop := (∃ p : Nat, p < n ∧ v = p ∧ P p ∧ ∀ q, q < p → ¬ P q) ∨ (v = -5 ∧ ∀ p, p < n → ¬ P p)
theorem IsFst.eq {n : Nat} {P : Nat → Prop} {v w : Int} (h : IsFst n P v) (h' : IsFst n P w) : v = w := by
  rcases h with ⟨p, p1, rfl, p3, p4⟩ | ⟨rfl, p2⟩ <;> rcases h' with ⟨q, q1, rfl, q3, q4⟩ | ⟨rfl, q2⟩
  · have : ¬ p < q := fun h => q4 p h p3
    have : ¬ q < p := fun h => p4 q h q3
    omega
  · exact absurd p3 (q2 p p1)
  · exact absurd q3 (p2 q q1)
  · rfl
theorem IsFst.rg {n : Nat} {P : Nat → Prop} {v : Int} (hn : n ≤ 1000) (h : IsFst n P v) : -5 ≤ v ∧ v < 1000 := by
  rcases h with ⟨p, p1, rfl, p3, p4⟩ | ⟨rfl, p2⟩ <;> constructor <;> omega
theorem w_X1_leastRing {t : Nat} {ab : Nat → Nat} {z : Hp} {K : Int → Prop} (hr : Row z (t + 7) ab) (hb : ∀ p, p < 30 → ab p < 1073741824) (k : ∀ v, IsFst 30 (fun p => (ab p).testBit p = true) v → K v) : cal_X1_leastRing t z K := by
  show LQ1 _ 0
  refine LQ1_for 30 (fun j => ∀ q, q < j → ¬ (ab q).testBit q = true) 0 rfl (by omega) (fun q hq => absurd hq (by omega)) (fun X j hj hI hX => ?_) (fun X hI => ?_)
  · refine w_if ⟨by omega, by omega⟩ (fun e => absurd e (by omega)) (fun _ => ⟨⟨by omega, by omega⟩, ?_⟩)
    rw [Int.toNat_natCast, hr j hj]
    refine w_X1_has (hb j hj) (by omega) (fun h => w_t rg1 (k _ (Or.inl ⟨j, hj, rfl, h, hI⟩))) (fun h => w_f rg0 (hX (fun q hq => ?_)))
    by_cases e : q = j
    · subst e; rw [h]; decide
    · exact hI q (by omega)
  · exact w_if ⟨by omega, by omega⟩ (fun _ => k _ (Or.inr ⟨rfl, hI⟩)) (fun e => absurd e (by omega))
theorem w_X1_generationOver {t s : Nat} {h : Nat → Nat} {z : Hp} {K : Int → Prop} (hr : Row z (t + 10) h) (hs : s < 1073741824) (hb : ∀ p, p < 30 → h p < 1000) (k : K (mxO h s 30 : Nat)) : cal_X1_generationOver t s z K := by
  show LQ2 _ 0 0
  refine LQ2_for 30 (fun j v => v = ((mxO h s j : Nat) : Int)) 0 rfl (by omega) rfl (fun X j v hj hv hX => ?_) (fun X v hv => ?_)
  · have hm : mxO h s j ≤ 1000 := mxO_le j (fun q hq _ => by have := hb q (by omega); omega)
    refine w_if ⟨by omega, by omega⟩ (fun e => absurd e (by omega)) (fun _ => ?_)
    refine w_X1_has hs (by omega) (fun hb1 => w_t rg1 ?_) (fun hb0 => w_f rg0 (hX _ ?_))
    · have := hb j hj
      rw [Int.toNat_natCast, hr j hj, hv]
      refine ⟨⟨by omega, by omega⟩, ⟨by omega, by omega⟩, ⟨by omega, by omega⟩, lt_i (hX _ ?_)⟩
      rw [mxO, if_pos hb1]
      by_cases c : (mxO h s j : Int) < (h j : Int) + 1
      · rw [if_pos c]; omega
      · rw [if_neg c]; omega
    · rw [hv, mxO, if_neg (by rw [hb0]; decide)]
  · subst hv
    exact w_if ⟨by omega, by omega⟩ (fun _ => k) (fun e => absurd e (by omega))
