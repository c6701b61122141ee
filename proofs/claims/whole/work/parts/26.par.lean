/-! parents, and those above -/
def PaOk (n : Nat) (m : Nat → Nat) : Prop := ∀ p, m p < 2 ^ n ∧ (n ≤ p → m p = 0)
theorem p30 {n x : Nat} (hn : n ≤ 30) (h : x < 2 ^ n) : x < 1073741824 := Nat.lt_of_lt_of_le h (Nat.pow_le_pow_right (n := 2) (by decide) hn)
theorem mst_ok {S : Nat → Int} {n : Nat} {g : Nat → Nat} {s : Int} {m : Nat → Nat} {t : Nat} (hm : PaOk n m) (ha : g (fA S t) < n) (hb : fS S t = s → g (fB S t).toNat < n) : PaOk n (mst S g s m t) := by
  unfold mst
  by_cases h : fS S t = s
  · rw [if_pos h]
    intro p
    by_cases e : p = g (fA S t)
    · rw [e, fup_eq]
      exact ⟨Nat.or_lt_two_pow (hm _).1 (Nat.pow_lt_pow_right (by decide) (hb h)), fun q => absurd q (by omega)⟩
    · rw [fup_ne e]; exact hm p
  · rw [if_neg h]; exact hm
theorem isTwo_of {s : Int} (h : s = 2 ∨ s = 3 ∨ s = 4 ∨ s = 5 ∨ s = 7) : isTwo s := ⟨by omega, by omega, by omega⟩
theorem paL_ok {S : Nat → Int} {n : Nat} {g : Nat → Nat} {s : Int} (hs : s = 2 ∨ s = 3) (hg : gGood n g) (l : List Nat) (hl : ∀ t ∈ l, StOk n S t) : PaOk n (paL S g s l) := by
  refine foldl_inv _ _ (fun p => ⟨Nat.pow_pos (by decide), fun _ => rfl⟩) (fun m t ht hm => mst_ok hm (hg.lt (hl t ht).a) (fun e => hg.lt ((hl t ht).b (isTwo_of (by omega)))))
theorem lv_ok {M : Nat} {S : Nat → Int} (h : SOk M S) {k : Nat} (hk : k ≤ sT S) : ∀ t ∈ lvK S k, StOk (sN S) S t := fun t ht => h.2.2.2 t (by have := lvK_lt ht; omega)
theorem moOf_ok {M : Nat} {S : Nat → Int} (h : SOk M S) : PaOk (sN S) (moOf S) := paL_ok (Or.inl rfl) (gOf_good h) _ (lv_ok h (Nat.le_refl _))
theorem faOf_ok {M : Nat} {S : Nat → Int} (h : SOk M S) : PaOk (sN S) (faOf S) := paL_ok (Or.inr rfl) (gOf_good h) _ (lv_ok h (Nat.le_refl _))
theorem prOf_ok {M : Nat} {S : Nat → Int} (h : SOk M S) : PaOk (sN S) (prOf S) := fun p => ⟨Nat.or_lt_two_pow (moOf_ok h p).1 (faOf_ok h p).1, fun q => by unfold prOf; rw [(moOf_ok h p).2 q, (faOf_ok h p).2 q]; rfl⟩
/-- a way up of one step or more -/
def Rch (pr : Nat → Nat) (p q : Nat) : Prop := ∀ C : Nat → Nat → Prop, (∀ a b, (pr a).testBit b = true → C a b) → (∀ a b c, C a b → C b c → C a c) → C p q
theorem Rch.one {pr : Nat → Nat} {p q : Nat} (h : (pr p).testBit q = true) : Rch pr p q := fun _ h1 _ => h1 p q h
theorem Rch.tr {pr : Nat → Nat} {p q r : Nat} (h : Rch pr p q) (h' : Rch pr q r) : Rch pr p r := fun C h1 h2 => h2 p q r (h C h1 h2) (h' C h1 h2)
def IsAb (n : Nat) (pr ab : Nat → Nat) : Prop := ∀ p, p < 30 → ab p < 2 ^ n ∧ ∀ q, (ab p).testBit q = true ↔ Rch pr p q
theorem tb_n {a n i : Nat} (ha : a < 2 ^ n) (h : a.testBit i = true) : i < n := by
  refine Decidable.byContradiction fun hn => ?_
  rw [Nat.testBit_lt_two_pow (show a < 2 ^ i from Nat.lt_of_lt_of_le ha (Nat.pow_le_pow_right (by decide) (by omega)))] at h
  cases h
theorem IsAb.of {n : Nat} {pr ab : Nat → Nat} (hn : n ≤ 30) (hp : PaOk n pr) (h1 : ∀ p, p < 30 → ab p < 2 ^ n) (h2 : ∀ p, p < 30 → ∀ q, (pr p).testBit q = true → (ab p).testBit q = true) (h3 : ∀ p, p < 30 → ∀ q, (ab p).testBit q = true → Rch pr p q) (h4 : ∀ p, p < 30 → ∀ q, (ab p).testBit q = true → ∀ r, (ab q).testBit r = true → (ab p).testBit r = true) : IsAb n pr ab := fun p hp' => ⟨h1 p hp', fun q => ⟨h3 p hp' q, fun h => by
  refine (h (fun a b => a < 30 ∧ (ab a).testBit b = true) (fun a b hab => ?_) (fun a b c hab hbc => ⟨hab.1, h4 a hab.1 b hab.2 c hbc.2⟩)).2
  have : a < n := Decidable.byContradiction fun hn' => by
    rw [(hp a).2 (by omega), Nat.zero_testBit] at hab
    cases hab
  exact ⟨by omega, h2 a (by omega) b hab⟩⟩⟩
theorem IsAb.eq {n : Nat} {pr ab ab' : Nat → Nat} (h : IsAb n pr ab) (h' : IsAb n pr ab') {p : Nat} (hp : p < 30) : ab p = ab' p := by
  refine Nat.eq_of_testBit_eq fun i => ?_
  rw [Bool.eq_iff_iff, (h p hp).2 i, (h' p hp).2 i]
/-- the union of the sets of those in s below k -/
def orS (ab : Nat → Nat) (s : Nat) : Nat → Nat
  | 0 => s
  | k + 1 => if s.testBit k then orS ab s k ||| ab k else orS ab s k
theorem orS_bit (ab : Nat → Nat) (s : Nat) (i : Nat) : ∀ k, (orS ab s k).testBit i = true ↔ s.testBit i = true ∨ ∃ q, q < k ∧ s.testBit q = true ∧ (ab q).testBit i = true
  | 0 => ⟨fun h => Or.inl h, fun h => h.elim id (fun ⟨q, h, _⟩ => absurd h (by omega))⟩
  | k + 1 => by
    have ih := orS_bit ab s i k
    unfold orS
    by_cases h : s.testBit k = true
    · rw [if_pos h, Nat.testBit_or, Bool.or_eq_true, ih]
      constructor
      · rintro ((h1 | ⟨q, h1, h2, h3⟩) | h1)
        · exact Or.inl h1
        · exact Or.inr ⟨q, by omega, h2, h3⟩
        · exact Or.inr ⟨k, by omega, h, h1⟩
      · rintro (h1 | ⟨q, h1, h2, h3⟩)
        · exact Or.inl (Or.inl h1)
        · by_cases e : q = k
          · subst e; exact Or.inr h3
          · exact Or.inl (Or.inr ⟨q, by omega, h2, h3⟩)
    · rw [if_neg h, ih]
      constructor
      · rintro (h1 | ⟨q, h1, h2, h3⟩)
        · exact Or.inl h1
        · exact Or.inr ⟨q, by omega, h2, h3⟩
      · rintro (h1 | ⟨q, h1, h2, h3⟩)
        · exact Or.inl h1
        · by_cases e : q = k
          · subst e; exact absurd h2 h
          · exact Or.inr ⟨q, by omega, h2, h3⟩
theorem orS_lt {ab : Nat → Nat} {n s : Nat} (hs : s < 2 ^ n) (ha : ∀ q, q < n → ab q < 2 ^ n) : ∀ k, k ≤ n → orS ab s k < 2 ^ n
  | 0, _ => hs
  | k + 1, hk => by
    unfold orS
    split
    · exact Nat.or_lt_two_pow (orS_lt hs ha k (by omega)) (ha k (by omega))
    · exact orS_lt hs ha k (by omega)
theorem sub_le {a b : Nat} (h : ∀ i, a.testBit i = true → b.testBit i = true) : a ≤ b := Nat.le_of_testBit h
def sumTo (f : Nat → Nat) : Nat → Nat
  | 0 => 0
  | k + 1 => sumTo f k + f k
theorem sumTo_le {f g : Nat → Nat} : ∀ k, (∀ i, i < k → f i ≤ g i) → sumTo f k ≤ sumTo g k
  | 0, _ => Nat.le_refl _
  | k + 1, h => Nat.add_le_add (sumTo_le k (fun i hi => h i (by omega))) (h k (by omega))
theorem sumTo_lt {f g : Nat → Nat} : ∀ k, (∀ i, i < k → f i ≤ g i) → (∃ i, i < k ∧ f i < g i) → sumTo f k < sumTo g k
  | 0, _, ⟨i, hi, _⟩ => absurd hi (by omega)
  | k + 1, h, ⟨i, hi, hlt⟩ => by
    have h1 := sumTo_le k (fun i hi => h i (by omega))
    have h2 := h k (by omega)
    show sumTo f k + f k < sumTo g k + g k
    by_cases e : i = k
    · subst e; omega
    · have := sumTo_lt k (fun i hi => h i (by omega)) ⟨i, by omega, hlt⟩
      omega
theorem sumTo_const {c : Nat} : ∀ k, sumTo (fun _ => c) k = k * c
  | 0 => by simp [sumTo]
  | k + 1 => by rw [sumTo, sumTo_const k, Nat.add_mul, Nat.one_mul]
