/-! steps up, counted in two ways -/
def FS (pr : Nat → Nat) (a : Nat) : Nat → (Nat → Prop) × (Nat → Prop)
  | 0 => (fun p => p = a, fun p => p = a)
  | k + 1 => (fun p => (∃ q, (FS pr a k).1 q ∧ (pr q).testBit p = true) ∧ ¬ (FS pr a k).2 p, fun p => (FS pr a k).2 p ∨ ((∃ q, (FS pr a k).1 q ∧ (pr q).testBit p = true) ∧ ¬ (FS pr a k).2 p))
def Fr (pr : Nat → Nat) (a k p : Nat) : Prop := (FS pr a k).1 p
def Sb (pr : Nat → Nat) (a k p : Nat) : Prop := ∃ j, j < k ∧ Fr pr a j p
theorem Sn_iff {pr : Nat → Nat} {a p : Nat} : ∀ k, (FS pr a k).2 p ↔ Sb pr a (k + 1) p
  | 0 => ⟨fun h => ⟨0, by omega, h⟩, fun ⟨j, h1, h2⟩ => by have : j = 0 := by omega
                                                           subst this; exact h2⟩
  | k + 1 => by
    have ih := Sn_iff (pr := pr) (a := a) (p := p) k
    show (FS pr a k).2 p ∨ Fr pr a (k + 1) p ↔ _
    rw [ih]
    constructor
    · rintro (⟨j, h1, h2⟩ | h)
      · exact ⟨j, by omega, h2⟩
      · exact ⟨k + 1, by omega, h⟩
    · rintro ⟨j, h1, h2⟩
      by_cases e : j = k + 1
      · subst e; exact Or.inr h2
      · exact Or.inl ⟨j, by omega, h2⟩
theorem Fr_succ {pr : Nat → Nat} {a k p : Nat} : Fr pr a (k + 1) p ↔ (∃ q, Fr pr a k q ∧ (pr q).testBit p = true) ∧ ¬ Sb pr a (k + 1) p := by
  rw [← Sn_iff]; exact Iff.rfl
theorem Fr_uq {pr : Nat → Nat} {a p j k : Nat} (h : Fr pr a j p) (h' : Fr pr a k p) : j = k := by
  have go : ∀ j k, j < k → Fr pr a j p → Fr pr a k p → False := fun j k q h h' => by
    obtain ⟨k', rfl⟩ : ∃ k', k = k' + 1 := ⟨k - 1, by omega⟩
    exact (Fr_succ.mp h').2 ⟨j, q, h⟩
  rcases Nat.lt_trichotomy j k with q | q | q
  · exact (go j k q h h').elim
  · exact q
  · exact (go k j q h' h).elim
theorem Fr_lt {pr : Nat → Nat} {n a : Nat} (hp : PaOk n pr) (ha : a < n) : ∀ k p, Fr pr a k p → p < n
  | 0, p, h => by rw [show p = a from h]; exact ha
  | k + 1, p, h => by
    obtain ⟨⟨q, _, h2⟩, _⟩ := Fr_succ.mp h
    exact tb_n (hp q).1 h2
theorem Fr_end {pr : Nat → Nat} {a k : Nat} (h : ∀ p, ¬ Fr pr a k p) : ∀ d p, ¬ Fr pr a (k + d) p
  | 0, p => h p
  | d + 1, p => fun q => by
    obtain ⟨⟨x, h1, _⟩, _⟩ := Fr_succ.mp (show Fr pr a ((k + d) + 1) p from q)
    exact Fr_end h d x h1
noncomputable def dU (pr : Nat → Nat) (a p : Nat) : Nat := @dite Nat (∃ k, k < 30 ∧ Fr pr a k p) (Classical.propDecidable _) (fun h => Classical.choose h) (fun _ => 99)
theorem dU_of {pr : Nat → Nat} {a p k : Nat} (hk : k < 30) (h : Fr pr a k p) : dU pr a p = k := by
  have hx : ∃ k, k < 30 ∧ Fr pr a k p := ⟨k, hk, h⟩
  unfold dU
  rw [dif_pos hx]
  exact Fr_uq (Classical.choose_spec hx).2 h
theorem dU_no {pr : Nat → Nat} {a p : Nat} (h : ∀ k, k < 30 → ¬ Fr pr a k p) : dU pr a p = 99 := by
  unfold dU
  rw [dif_neg (fun ⟨k, h1, h2⟩ => h k h1 h2)]
theorem dU_cs (pr : Nat → Nat) (a p : Nat) : (dU pr a p < 30 ∧ Fr pr a (dU pr a p) p) ∨ (dU pr a p = 99 ∧ ∀ k, k < 30 → ¬ Fr pr a k p) := by
  by_cases c : ∃ k, k < 30 ∧ Fr pr a k p
  · obtain ⟨k, h1, h2⟩ := c
    have := dU_of h1 h2
    rw [this]; exact Or.inl ⟨h1, h2⟩
  · exact Or.inr ⟨dU_no (fun k h1 h2 => c ⟨k, h1, h2⟩), fun k h1 h2 => c ⟨k, h1, h2⟩⟩
/-- steps told so far, below k -/
def Stq (z : Hp) (c : Nat) (pr : Nat → Nat) (a k : Nat) (no : Int) : Prop := ∀ p, p < 30 → (∀ j, j < k → Fr pr a j p → z c p = (j : Nat)) ∧ (¬ Sb pr a k p → z c p = no)
theorem Stq.fin {z : Hp} {c : Nat} {pr : Nat → Nat} {a k : Nat} {no : Int} (h : Stq z c pr a k no) (hk : k ≤ 30) (he : ∀ j, k ≤ j → j < 30 → ∀ p, ¬ Fr pr a j p) : ∀ p, p < 30 → z c p = if dU pr a p = 99 then no else (dU pr a p : Int) := fun p hp => by
  rcases dU_cs pr a p with ⟨a1, a2⟩ | ⟨a1, a2⟩
  · rw [if_neg (by omega)]
    have : dU pr a p < k := Decidable.byContradiction fun q => he _ (by omega) a1 p a2
    exact (h p hp).1 _ this a2
  · rw [if_pos a1]
    exact (h p hp).2 (fun ⟨j, q1, q2⟩ => a2 j (by omega) q2)
set_option maxHeartbeats 1000000 in
theorem w_X7_count {r1 r3 a n : Nat} {pr : Nat → Nat} {z : Hp} {K : Hp → Prop} (hn : n ≤ 30) (ha : a < n) (hpr : PaOk n pr) (hd : r3 ≠ r1 + 6) (h6 : Row z (r1 + 6) pr) (k : ∀ z' : Hp, (∀ p, p < 30 → z' r3 p = if dU pr a p = 99 then -1 else (dU pr a p : Int)) → (∀ c, c ≠ r3 → z' c = z c) → K z') : cal_X7_count r1 a r3 z K := by
  have hlt := Fr_lt hpr ha
  show LP1 _ 0 z
  refine LP1_for 30 (fun j z' => (∀ p, p < j → z' r3 p = -1) ∧ ∀ c, c ≠ r3 → z' c = z c) 0 rfl (by omega) ⟨fun p hp => absurd hp (by omega), fun _ _ => rfl⟩ (fun X j z1 hj hI hX => ?_) (fun X z1 hI => ?_)
  · refine w_if ⟨by omega, by omega⟩ (fun e => absurd e (by omega)) (fun _ => ⟨⟨by omega, by omega⟩, hp_i (lt_i (hX _ ⟨fun p hp => ?_, fun c hc => by funext i; rw [kup_c hc, hI.2 c hc]⟩))⟩)
    rw [Int.toNat_natCast]
    by_cases e : p = j
    · subst e; exact kup_eq
    · rw [kup_n (fun q => e q.2)]; exact hI.1 p (by omega)
  obtain ⟨i1, i2⟩ := hI
  refine w_if ⟨by omega, by omega⟩ (fun _ => ?_) (fun e => absurd e (by omega))
  rw [ishl_1 a (by omega)]
  refine lt_i (lt_i ?_)
  have prb : ∀ p, pr p < 1073741824 := fun p => p30 hn (hpr p).1
  refine LP2_for 30 (fun s v z' => ∃ R : Nat, v = (R : Nat) ∧ R < 1073741824 ∧ (∀ p, Fr pr a s p ↔ R.testBit p = true ∧ ¬ Sb pr a s p) ∧ Stq z' r3 pr a s (-1) ∧ ∀ c, c ≠ r3 → z' c = z c) 0 rfl (by omega) ⟨2 ^ a, rfl, pow_lt30 (by omega), fun p => ⟨fun h => ⟨pow_bit.mpr (show p = a from h).symm, fun ⟨j, h1, _⟩ => absurd h1 (by omega)⟩, fun h => (pow_bit.mp h.1).symm⟩, fun p hp => ⟨fun j hj => absurd hj (by omega), fun _ => i1 p hp⟩, i2⟩ (fun X s v z2 hs hI hX => ?_) (fun X v z2 hI => ?_)
  · obtain ⟨R, rfl, hR, hF, hS, hf⟩ := hI
    refine w_if ⟨by omega, by omega⟩ (fun e => absurd e (by omega)) (fun _ => w_if ⟨by omega, by omega⟩ (fun e0 => ?_) (fun e0 => lt_i (lt_i ?_)))
    · have R0 : R = 0 := by omega
      have em : ∀ p, ¬ Fr pr a s p := fun p h => by have := ((hF p).mp h).1; rw [R0, Nat.zero_testBit] at this; cases this
      refine k z2 (hS.fin (by omega) (fun j h1 _ p => ?_)) hf
      have := Fr_end em (j - s) p
      rwa [show s + (j - s) = j by omega] at this
    refine LP2_for 30 (fun i w z' => ∃ M : Nat, w = (M : Nat) ∧ M < 1073741824 ∧ (∀ p, M.testBit p = true ↔ ∃ q, q < i ∧ Fr pr a s q ∧ (pr q).testBit p = true) ∧ (∀ p, p < 30 → (∀ j, j < s → Fr pr a j p → z' r3 p = (j : Nat)) ∧ (p < i → Fr pr a s p → z' r3 p = (s : Nat)) ∧ (¬ Sb pr a s p → ¬ (p < i ∧ Fr pr a s p) → z' r3 p = -1)) ∧ ∀ c, c ≠ r3 → z' c = z c) 0 rfl (by omega) ⟨0, rfl, by decide, fun p => ⟨fun h => (by rw [Nat.zero_testBit] at h; cases h), fun ⟨q, h, _⟩ => absurd h (by omega)⟩, fun p hp => ⟨(hS p hp).1, fun h => absurd h (by omega), fun h _ => (hS p hp).2 h⟩, hf⟩ (fun Y i w z3 hi hI hY => ?_) (fun Y w z3 hI => ?_)
    · obtain ⟨M, rfl, hM, hB, hT, hg⟩ := hI
      have ii : inb (i : Int) 30 := ⟨by omega, by omega⟩
      have vi : (∃ j, j < s ∧ Fr pr a j i ∧ z3 r3 i = (j : Nat)) ∨ (¬ Sb pr a s i ∧ z3 r3 i = -1) := by
        by_cases c : Sb pr a s i
        · obtain ⟨j, c1, c2⟩ := c
          exact Or.inl ⟨j, c1, c2, (hT i hi).1 j c1 c2⟩
        · exact Or.inr ⟨c, (hT i hi).2.2 c (fun q => absurd q.1 (by omega))⟩
      have keep : ¬ Fr pr a s i → Y (M : Nat) ((i : Int) + 1) z3 := fun hn => hY _ z3 ⟨M, rfl, hM, fun p => by
          rw [hB p]
          constructor
          · rintro ⟨q, q1, q2⟩; exact ⟨q, by omega, q2⟩
          · rintro ⟨q, q1, q2⟩
            by_cases g : q = i
            · subst g; exact absurd q2.1 hn
            · exact ⟨q, by omega, q2⟩, fun p hp => ⟨(hT p hp).1, fun h1 h2 => by
            by_cases g : p = i
            · subst g; exact absurd h2 hn
            · exact (hT p hp).2.1 (by omega) h2, fun h1 h2 => (hT p hp).2.2 h1 (fun q => h2 ⟨by omega, q.2⟩)⟩, hg⟩
      refine w_if ⟨by omega, by omega⟩ (fun e => absurd e (by omega)) (fun _ => w_X1_has hR (by omega) (fun hb => ?_) (fun hb => ?_))
      · refine jn_i (fun J => ∀ w' z', Y w' ((i : Int) + 1) z' → J w' z') (fun w' z' h => lt_i h) (fun J hJ => w_t rg1 ⟨ii, ?_⟩)
        rw [Int.toNat_natCast]
        rcases vi with ⟨j, c1, c2, c3⟩ | ⟨c1, c2⟩
        · rw [c3]
          refine ⟨⟨by omega, by omega⟩, ?_⟩
          rw [if_pos (by omega)]
          exact hJ _ _ (keep (fun h => ((hF i).mp h).2 ⟨j, c1, c2⟩))
        · rw [c2]
          refine ⟨⟨by decide, by decide⟩, ?_⟩
          rw [if_neg (by decide)]
          have fi : Fr pr a s i := (hF i).mpr ⟨hb, c1⟩
          have v6 : kup z3 r3 i s (r1 + 6) i = (pr i : Nat) := by rw [kup_c (fun q => hd q.symm), hg (r1 + 6) (fun q => hd q.symm)]; exact h6 i hi
          have pi := prb i
          refine ⟨ii, hp_i ⟨ii, ?_⟩⟩
          rw [v6, ior_n (by omega) (by omega)]
          refine lt_i (hJ _ _ (hY _ _ ⟨M ||| pr i, rfl, or_lt hM pi, fun p => ?_, fun p hp => ?_, fun c hc => by funext y; rw [kup_c hc, hg c hc]⟩))
          · rw [Nat.testBit_or, Bool.or_eq_true, hB p]
            constructor
            · rintro (⟨q, q1, q2⟩ | h)
              · exact ⟨q, by omega, q2⟩
              · exact ⟨i, by omega, fi, h⟩
            · rintro ⟨q, q1, q2⟩
              by_cases g : q = i
              · subst g; exact Or.inr q2.2
              · exact Or.inl ⟨q, by omega, q2⟩
          · by_cases g : p = i
            · subst g
              rw [kup_eq]
              exact ⟨fun j h1 h2 => absurd ⟨j, h1, h2⟩ c1, fun _ _ => rfl, fun _ h => absurd ⟨by omega, fi⟩ h⟩
            · rw [kup_n (fun q => g q.2)]
              exact ⟨(hT p hp).1, fun h1 h2 => (hT p hp).2.1 (by omega) h2, fun h1 h2 => (hT p hp).2.2 h1 (fun q => h2 ⟨by omega, q.2⟩)⟩
      · exact jn_i (fun J => J (M : Nat) z3) (lt_i (keep (fun h => by have := ((hF i).mp h).1; rw [hb] at this; cases this))) (fun J hJ => w_f rg0 hJ)
    · obtain ⟨M, rfl, hM, hB, hT, hg⟩ := hI
      refine w_if ⟨by omega, by omega⟩ (fun _ => lt_i (lt_i (hX _ z3 ⟨M, rfl, hM, fun p => ?_, fun p hp => ⟨fun j h1 h2 => ?_, fun h => ?_⟩, hg⟩))) (fun e => absurd e (by omega))
      · rw [Fr_succ, hB p]
        constructor
        · rintro ⟨⟨q, q1, q2⟩, h⟩
          exact ⟨⟨q, by have := hlt s q q1; omega, q1, q2⟩, h⟩
        · rintro ⟨⟨q, _, q1, q2⟩, h⟩
          exact ⟨⟨q, q1, q2⟩, h⟩
      · by_cases g : j = s
        · subst g; exact (hT p hp).2.1 (by omega) h2
        · exact (hT p hp).1 j (by omega) h2
      · exact (hT p hp).2.2 (fun ⟨j, q1, q2⟩ => h ⟨j, by omega, q2⟩) (fun q => h ⟨s, by omega, q.2⟩)
  · obtain ⟨R, rfl, hR, hF, hS, hf⟩ := hI
    exact w_if ⟨by omega, by omega⟩ (fun _ => k z2 (hS.fin (by omega) (fun j h1 h2 => absurd h1 (by omega))) hf) (fun e => absurd e (by omega))
set_option maxHeartbeats 1000000 in
theorem w_X10_steps {r a n : Nat} {mo fa : Nat → Nat} {z : Hp} {K : Hp → Prop} (hn : n ≤ 30) (ha : a < n) (hpr : PaOk n (fun p => mo p ||| fa p)) (hr : r = 13 ∨ r = 14) (h0 : z 1 0 = n) (h7 : Row z 7 mo) (h8 : Row z 8 fa) (hm : ∀ p, p < 30 → mo p < 1073741824) (hf : ∀ p, p < 30 → fa p < 1073741824) (k : ∀ z' : Hp, (∀ p, p < 30 → z' r p = (dU (fun p => mo p ||| fa p) a p : Int)) → (∀ c, c ≠ r → z' c = z c) → K z') : cal_X10_steps a r z K := by
  have hlt := Fr_lt hpr ha
  have nr7 : (7 : Nat) ≠ r := by omega
  have nr8 : (8 : Nat) ≠ r := by omega
  have prb : ∀ p, (mo p ||| fa p) < 1073741824 := fun p => p30 hn (hpr p).1
  show LP1 _ 0 z
  refine LP1_for 30 (fun j z' => (∀ p, p < j → z' r p = if p = a then 0 else 99) ∧ ∀ c, c ≠ r → z' c = z c) 0 rfl (by omega) ⟨fun p hp => absurd hp (by omega), fun _ _ => rfl⟩ (fun X j z1 hj hI hX => ?_) (fun X z1 hI => ?_)
  · have ij : inb (j : Int) 30 := ⟨by omega, by omega⟩
    refine w_if ⟨by omega, by omega⟩ (fun e => absurd e (by omega)) (fun _ => jn_i (fun J => J (kup z1 r j (if j = a then 0 else 99))) (lt_i (hX _ ⟨fun p hp => ?_, fun c hc => by funext i; rw [kup_c hc, hI.2 c hc]⟩)) (fun J hJ => w_if2 ⟨by omega, by omega⟩ ⟨by omega, by omega⟩ (fun e => ⟨ij, hp_i ?_⟩) (fun e => ⟨ij, hp_i ?_⟩)))
    · by_cases e : p = j
      · subst e; exact kup_eq
      · rw [kup_n (fun q => e q.2)]; exact hI.1 p (by omega)
    · rw [if_pos (by omega)] at hJ; exact hJ
    · rw [if_neg (by omega)] at hJ; exact hJ
  obtain ⟨i1, i2⟩ := hI
  refine w_if ⟨by omega, by omega⟩ (fun _ => lt_i ?_) (fun e => absurd e (by omega))
  generalize hpe : (fun p => mo p ||| fa p) = pr at *
  have epr : ∀ p, mo p ||| fa p = pr p := fun p => by rw [← hpe]
  refine LP1_for 30 (fun s z' => 1 ≤ s ∧ Stq z' r pr a s 99 ∧ ∀ c, c ≠ r → z' c = z c) 1 rfl (by omega) ⟨Nat.le_refl 1, fun p hp => ⟨fun j hj h => ?_, fun h => ?_⟩, i2⟩ (fun X s z2 hs hI hX => ?_) (fun X z2 hI => ?_)
  · have : j = 0 := by omega
    subst this
    rw [i1 p hp, if_pos (show p = a from h)]; rfl
  · rw [i1 p hp, if_neg (show ¬ p = a from fun e => h ⟨0, by omega, e⟩)]
  · obtain ⟨s1, hS, hg⟩ := hI
    refine w_if ⟨by omega, by omega⟩ (fun e => absurd e (by omega)) (fun _ => lt_i ?_)
    obtain ⟨s', rfl⟩ : ∃ s', s = s' + 1 := ⟨s - 1, by omega⟩
    refine LP1_for n (fun i z' => (∀ p, p < 30 → (∀ j, j < s' + 1 → Fr pr a j p → z' r p = (j : Nat)) ∧ (¬ Sb pr a (s' + 1) p → (∃ q, q < i ∧ Fr pr a s' q ∧ (pr q).testBit p = true) → z' r p = ((s' + 1 : Nat) : Int)) ∧ (¬ Sb pr a (s' + 1) p → (¬ ∃ q, q < i ∧ Fr pr a s' q ∧ (pr q).testBit p = true) → z' r p = 99)) ∧ ∀ c, c ≠ r → z' c = z c) 0 rfl (by omega) ⟨fun p hp => ⟨(hS p hp).1, fun _ ⟨q, h, _⟩ => absurd h (by omega), fun h _ => (hS p hp).2 h⟩, hg⟩ (fun Y i z3 hi hI hY => ?_) (fun Y z3 hI => ?_)
    · obtain ⟨hT, hg⟩ := hI
      have e1 : z3 1 0 = n := by rw [hg 1 (by omega)]; exact h0
      refine w_if2 ⟨by omega, by omega⟩ (by rw [e1]; constructor <;> omega) (fun e => absurd e (by rw [e1]; omega)) (fun _ => lt_i ?_)
      refine LP1_for n (fun x z' => (∀ p, p < 30 → (∀ j, j < s' + 1 → Fr pr a j p → z' r p = (j : Nat)) ∧ (¬ Sb pr a (s' + 1) p → ((∃ q, q < i ∧ Fr pr a s' q ∧ (pr q).testBit p = true) ∨ (p < x ∧ Fr pr a s' i ∧ (pr i).testBit p = true)) → z' r p = ((s' + 1 : Nat) : Int)) ∧ (¬ Sb pr a (s' + 1) p → ¬ ((∃ q, q < i ∧ Fr pr a s' q ∧ (pr q).testBit p = true) ∨ (p < x ∧ Fr pr a s' i ∧ (pr i).testBit p = true)) → z' r p = 99)) ∧ ∀ c, c ≠ r → z' c = z c) 0 rfl (by omega) ⟨fun p hp => ⟨(hT p hp).1, fun h q => (hT p hp).2.1 h (q.elim id (fun q => absurd q.1 (by omega))), fun h q => (hT p hp).2.2 h (fun w => q (Or.inl w))⟩, hg⟩ (fun W x z4 hx hI hW => ?_) (fun W z4 hI => ?_)
      · obtain ⟨hU, hg4⟩ := hI
        have e1 : z4 1 0 = n := by rw [hg4 1 (by omega)]; exact h0
        have ii : inb (i : Int) 30 := ⟨by omega, by omega⟩
        have ix : inb (x : Int) 30 := ⟨by omega, by omega⟩
        -- the value at a place
        have val : ∀ p, p < 30 → (∃ j, j < s' + 1 ∧ Fr pr a j p ∧ z4 r p = (j : Nat)) ∨ (¬ Sb pr a (s' + 1) p ∧ (z4 r p = ((s' + 1 : Nat) : Int) ∨ z4 r p = 99)) := fun p hp => by
          by_cases c : Sb pr a (s' + 1) p
          · obtain ⟨j, c1, c2⟩ := c
            exact Or.inl ⟨j, c1, c2, (hU p hp).1 j c1 c2⟩
          · refine Or.inr ⟨c, ?_⟩
            by_cases d : (∃ q, q < i ∧ Fr pr a s' q ∧ (pr q).testBit p = true) ∨ (p < x ∧ Fr pr a s' i ∧ (pr i).testBit p = true)
            · exact Or.inl ((hU p hp).2.1 c d)
            · exact Or.inr ((hU p hp).2.2 c d)
        have vi := val i (by omega)
        have vx := val x (by omega)
        have rgv : ∀ p, p < 30 → 0 ≤ z4 r p ∧ z4 r p ≤ 99 := fun p hp => by rcases val p hp with ⟨j, _, _, c⟩ | ⟨_, c | c⟩ <;> omega
        have ri := rgv i (by omega)
        have rx := rgv x (by omega)
        have iff_s : z4 r i = (s' : Nat) ↔ Fr pr a s' i := by
          constructor
          · intro h
            rcases vi with ⟨j, c1, c2, c3⟩ | ⟨_, c | c⟩
            · have : j = s' := by omega
              subst this; exact c2
            · omega
            · omega
          · exact fun h => (hU i (by omega)).1 s' (by omega) h
        have fin : ∀ v : Int, ((Fr pr a s' i ∧ (pr i).testBit x = true ∧ v = if z4 r x = 99 then ((s' + 1 : Nat) : Int) else z4 r x) ∨ (¬ (Fr pr a s' i ∧ (pr i).testBit x = true) ∧ v = z4 r x)) → W ((x : Int) + 1) (kup z4 r x v) := fun v hv => hW _ ⟨fun p hp => by
            by_cases g : p = x
            · subst g
              rw [kup_eq]
              rcases hv with ⟨f1, f2, rfl⟩ | ⟨f1, rfl⟩
              · refine ⟨fun j h1 h2 => ?_, fun h1 _ => ?_, fun h1 h2 => absurd (Or.inr ⟨by omega, f1, f2⟩) h2⟩
                · have := (hU p hp).1 j h1 h2
                  rw [if_neg (by omega)]; exact this
                · rcases vx with ⟨j, c1, c2, c3⟩ | ⟨_, c | c⟩
                  · exact absurd ⟨j, c1, c2⟩ h1
                  · rw [if_neg (by omega)]; exact c
                  · rw [if_pos c]
              · exact ⟨(hU p hp).1, fun h1 h2 => (hU p hp).2.1 h1 (h2.elim Or.inl (fun q => absurd ⟨q.2.1, q.2.2⟩ f1)), fun h1 h2 => (hU p hp).2.2 h1 (fun q => h2 (q.elim Or.inl (fun q => absurd q.1 (by omega))))⟩
            · rw [kup_n (fun q => g q.2)]
              exact ⟨(hU p hp).1, fun h1 h2 => (hU p hp).2.1 h1 (h2.elim Or.inl (fun q => Or.inr ⟨by omega, q.2⟩)), fun h1 h2 => (hU p hp).2.2 h1 (fun q => h2 (q.elim Or.inl (fun q => Or.inr ⟨by omega, q.2⟩)))⟩, fun c hc => by funext y; rw [kup_c hc, hg4 c hc]⟩
        refine w_if2 ⟨by omega, by omega⟩ (by rw [e1]; constructor <;> omega) (fun e => absurd e (by rw [e1]; omega)) (fun _ => ⟨ii, ?_⟩)
        refine jn_i (fun J => ∀ v : Int, ((Fr pr a s' i ∧ (pr i).testBit x = true ∧ v = if z4 r x = 99 then ((s' + 1 : Nat) : Int) else z4 r x) ∨ (¬ (Fr pr a s' i ∧ (pr i).testBit x = true) ∧ v = z4 r x)) → J (kup z4 r x v)) (fun v hv => lt_i (fin v hv)) (fun J hJ => ?_)
        rw [Int.toNat_natCast, Int.toNat_natCast, h7.to (hg4 7 nr7) i (by omega), h8.to (hg4 8 nr8) i (by omega), ior_n (by have := hm i (by omega); omega) (by have := hf i (by omega); omega), epr i]
        refine w_if2 ⟨by omega, by omega⟩ ⟨by omega, by omega⟩ (fun e => ⟨ii, ii, ?_⟩) (fun e => ⟨ix, ix, hp_i (hJ _ (Or.inr ⟨fun q => e (by have := iff_s.mpr q.1; omega), rfl⟩))⟩)
        have fi : Fr pr a s' i := iff_s.mp (by omega)
        have pbi := prb i
        rw [epr i] at pbi
        refine w_X10_has pbi (by omega) (fun hb => w_t rg1 ⟨ix, ⟨by omega, by omega⟩, ⟨by omega, by omega⟩, ix, hp_i (hJ _ (Or.inl ⟨fi, hb, ?_⟩))⟩) (fun hb => w_f rg0 ⟨ix, ix, hp_i (hJ _ (Or.inr ⟨fun q => (by have := q.2; rw [hb] at this; cases this), rfl⟩))⟩)
        rcases vx with ⟨j, c1, c2, c3⟩ | ⟨_, c | c⟩
        · rw [if_neg (by omega), if_neg (by omega)]
        · rw [if_neg (by omega), if_neg (by omega)]
        · rw [if_pos (by omega), if_pos c]
      · obtain ⟨hU, hg4⟩ := hI
        have e1 : z4 1 0 = n := by rw [hg4 1 (by omega)]; exact h0
        have eq : ∀ p, ((∃ q, q < i ∧ Fr pr a s' q ∧ (pr q).testBit p = true) ∨ (p < n ∧ Fr pr a s' i ∧ (pr i).testBit p = true)) ↔ ∃ q, q < i + 1 ∧ Fr pr a s' q ∧ (pr q).testBit p = true := fun p => by
          constructor
          · rintro (⟨q, q1, q2⟩ | ⟨_, q⟩)
            · exact ⟨q, by omega, q2⟩
            · exact ⟨i, by omega, q⟩
          · rintro ⟨q, q1, q2⟩
            by_cases g : q = i
            · subst g; exact Or.inr ⟨tb_n (hpr q).1 q2.2, q2⟩
            · exact Or.inl ⟨q, by omega, q2⟩
        exact w_if2 ⟨by omega, by omega⟩ (by rw [e1]; constructor <;> omega) (fun _ => lt_i (hY z4 ⟨fun p hp => ⟨(hU p hp).1, fun h1 h2 => (hU p hp).2.1 h1 ((eq p).mpr h2), fun h1 h2 => (hU p hp).2.2 h1 (fun q => h2 ((eq p).mp q))⟩, hg4⟩)) (fun e => absurd e (by rw [e1]; omega))
    · obtain ⟨hT, hg⟩ := hI
      have e1 : z3 1 0 = n := by rw [hg 1 (by omega)]; exact h0
      refine w_if2 ⟨by omega, by omega⟩ (by rw [e1]; constructor <;> omega) (fun _ => lt_i (hX z3 ⟨by omega, fun p hp => ⟨fun j h1 h2 => ?_, fun h => ?_⟩, hg⟩)) (fun e => absurd e (by rw [e1]; omega))
      · by_cases g : j = s' + 1
        · subst g
          obtain ⟨⟨q, q1, q2⟩, q3⟩ := Fr_succ.mp h2
          exact (hT p hp).2.1 q3 ⟨q, hlt s' q q1, q1, q2⟩
        · exact (hT p hp).1 j (by omega) h2
      · refine (hT p hp).2.2 (fun ⟨j, q1, q2⟩ => h ⟨j, by omega, q2⟩) (fun ⟨q, _, q1, q2⟩ => h ⟨s' + 1, by omega, Fr_succ.mpr ⟨⟨q, q1, q2⟩, fun ⟨j, w1, w2⟩ => h ⟨j, by omega, w2⟩⟩⟩)
  · obtain ⟨_, hS, hg⟩ := hI
    refine w_if ⟨by omega, by omega⟩ (fun _ => k z2 (fun p hp => ?_) hg) (fun e => absurd e (by omega))
    have := hS.fin (by omega) (fun j h1 h2 => absurd h1 (by omega)) p hp
    rw [this]
    split
    · next c => rw [c]; rfl
    · rfl
