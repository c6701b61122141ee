/-! sexes, told both ways -/
theorem ite_or_bit {c : Prop} [Decidable c] {a b i : Nat} : (if c then a ||| b else a).testBit i = true ↔ a.testBit i = true ∨ (c ∧ b.testBit i = true) := by
  by_cases h : c
  · rw [if_pos h, Nat.testBit_or, Bool.or_eq_true]
    exact ⟨fun q => q.elim Or.inl (fun q => Or.inr ⟨h, q⟩), fun q => q.elim Or.inl (fun q => Or.inr q.2)⟩
  · rw [if_neg h]
    exact ⟨Or.inl, fun q => q.elim id (fun q => absurd q.1 h)⟩
theorem pow_bit {a i : Nat} : (2 ^ a).testBit i = true ↔ a = i := by rw [Nat.testBit_two_pow]; exact ⟨fun h => of_decide_eq_true h, fun h => decide_eq_true h⟩
theorem paL_bit {S : Nat → Int} {g : Nat → Nat} {s : Int} {k q : Nat} (l : List Nat) : (paL S g s l k).testBit q = true ↔ ∃ t, t ∈ l ∧ fS S t = s ∧ g (fA S t) = k ∧ g (fB S t).toNat = q := by
  have gen : ∀ (l : List Nat) (m : Nat → Nat), ((l.foldl (mst S g s) m) k).testBit q = true ↔ (m k).testBit q = true ∨ ∃ t, t ∈ l ∧ fS S t = s ∧ g (fA S t) = k ∧ g (fB S t).toNat = q := fun l => by
    induction l with
    | nil => exact fun m => ⟨Or.inl, fun h => h.elim id (fun ⟨t, h, _⟩ => absurd h (by simp))⟩
    | cons x l ih =>
      intro m
      rw [List.foldl_cons, ih]
      have e : (mst S g s m x k).testBit q = true ↔ (m k).testBit q = true ∨ (fS S x = s ∧ g (fA S x) = k ∧ g (fB S x).toNat = q) := by
        unfold mst
        by_cases c : fS S x = s
        · rw [if_pos c]
          by_cases d : k = g (fA S x)
          · subst d
            rw [fup_eq, Nat.testBit_or, Bool.or_eq_true, pow_bit]
            exact ⟨fun h => h.elim Or.inl (fun h => Or.inr ⟨c, rfl, h⟩), fun h => h.elim Or.inl (fun h => Or.inr h.2.2)⟩
          · rw [fup_ne d]
            exact ⟨Or.inl, fun h => h.elim id (fun h => absurd h.2.1.symm d)⟩
        · rw [if_neg c]
          exact ⟨Or.inl, fun h => h.elim id (fun h => absurd h.1 c)⟩
      rw [e]
      constructor
      · rintro ((h | h) | ⟨t, h, h'⟩)
        · exact Or.inl h
        · exact Or.inr ⟨x, List.mem_cons_self .., h⟩
        · exact Or.inr ⟨t, List.mem_cons_of_mem _ h, h'⟩
      · rintro (h | ⟨t, h, h'⟩)
        · exact Or.inl (Or.inl h)
        · rcases List.mem_cons.mp h with rfl | h
          · exact Or.inl (Or.inr h')
          · exact Or.inr ⟨t, h, h'⟩
  rw [show paL S g s l = l.foldl (mst S g s) (fun _ => 0) from rfl, gen l]
  exact ⟨fun h => h.elim (fun h => by rw [Nat.zero_testBit] at h; cases h) id, Or.inr⟩
theorem one_bit {i : Nat} : (1 : Nat).testBit i = true ↔ i = 0 := by
  rw [show (1 : Nat) = 2 ^ 0 from rfl, pow_bit]; exact eq_comm
theorem two_bit {i : Nat} : (2 : Nat).testBit i = true ↔ i = 1 := by
  rw [show (2 : Nat) = 2 ^ 1 from rfl, pow_bit]; exact eq_comm
theorem sxL_bit {S : Nat → Int} {g : Nat → Nat} {p i : Nat} : ∀ (l : List Nat) (m : Nat → Nat), (sxL S g m l p).testBit i = true ↔ (m p).testBit i = true ∨ ∃ t, t ∈ l ∧ g (fB S t).toNat = p ∧ ((fS S t = 2 ∧ i = 0) ∨ (fS S t = 3 ∧ i = 1))
  | [], m => ⟨Or.inl, fun h => h.elim id (fun ⟨t, h, _⟩ => absurd h (by simp))⟩
  | x :: l, m => by
    have ih := sxL_bit (S := S) (g := g) (p := p) (i := i) l (sxst S g m x)
    show (sxL S g (sxst S g m x) l p).testBit i = true ↔ _
    rw [ih]
    have e : (sxst S g m x p).testBit i = true ↔ (m p).testBit i = true ∨ (g (fB S x).toNat = p ∧ ((fS S x = 2 ∧ i = 0) ∨ (fS S x = 3 ∧ i = 1))) := by
      unfold sxst
      by_cases c : fS S x = 2
      · rw [if_pos c]
        by_cases d : p = g (fB S x).toNat
        · subst d
          rw [fup_eq, Nat.testBit_or, Bool.or_eq_true, one_bit]
          exact ⟨fun h => h.elim Or.inl (fun h => Or.inr ⟨rfl, Or.inl ⟨c, h⟩⟩), fun h => h.elim Or.inl (fun h => h.2.elim (fun h => Or.inr h.2) (fun h => absurd h.1 (by omega)))⟩
        · rw [fup_ne d]
          exact ⟨Or.inl, fun h => h.elim id (fun h => absurd h.1.symm d)⟩
      · rw [if_neg c]
        by_cases c3 : fS S x = 3
        · rw [if_pos c3]
          by_cases d : p = g (fB S x).toNat
          · subst d
            rw [fup_eq, Nat.testBit_or, Bool.or_eq_true, two_bit]
            exact ⟨fun h => h.elim Or.inl (fun h => Or.inr ⟨rfl, Or.inr ⟨c3, h⟩⟩), fun h => h.elim Or.inl (fun h => h.2.elim (fun h => absurd h.1 (by omega)) (fun h => Or.inr h.2))⟩
          · rw [fup_ne d]
            exact ⟨Or.inl, fun h => h.elim id (fun h => absurd h.1.symm d)⟩
        · rw [if_neg c3]
          exact ⟨Or.inl, fun h => h.elim id (fun h => h.2.elim (fun h => absurd h.1 c) (fun h => absurd h.1 c3))⟩
    rw [e]
    constructor
    · rintro ((h | h) | ⟨t, h, h'⟩)
      · exact Or.inl h
      · exact Or.inr ⟨x, List.mem_cons_self .., h⟩
      · exact Or.inr ⟨t, List.mem_cons_of_mem _ h, h'⟩
    · rintro (h | ⟨t, h, h'⟩)
      · exact Or.inl (Or.inl h)
      · rcases List.mem_cons.mp h with rfl | h
        · exact Or.inl (Or.inr h')
        · exact Or.inr ⟨t, h, h'⟩
theorem sxK_bit {S : Nat → Int} {g : Nat → Nat} {p i : Nat} : ∀ k, (sxK S g k p).testBit i = true ↔ ∃ j, j < k ∧ g j = p ∧ (pX S j).toNat.testBit i = true
  | 0 => ⟨fun h => (by rw [show sxK S g 0 p = 0 from rfl, Nat.zero_testBit] at h; cases h), fun ⟨j, h, _⟩ => absurd h (by omega)⟩
  | k + 1 => by
    have ih := sxK_bit (S := S) (g := g) (p := p) (i := i) k
    show (fup (sxK S g k) (g k) (sxK S g k (g k) ||| (pX S k).toNat) p).testBit i = true ↔ _
    by_cases d : p = g k
    · subst d
      rw [fup_eq, Nat.testBit_or, Bool.or_eq_true, ih]
      constructor
      · rintro (⟨j, a, b⟩ | h)
        · exact ⟨j, by omega, b⟩
        · exact ⟨k, by omega, rfl, h⟩
      · rintro ⟨j, a, b⟩
        by_cases e : j = k
        · subst e; exact Or.inr b.2
        · exact Or.inl ⟨j, by omega, b⟩
    · rw [fup_ne d, ih]
      constructor
      · rintro ⟨j, a, b⟩
        exact ⟨j, by omega, b⟩
      · rintro ⟨j, a, b⟩
        by_cases e : j = k
        · subst e; exact absurd b.1.symm d
        · exact ⟨j, by omega, b⟩
theorem sxR_bit {S : Nat → Int} {g mo fa : Nat → Nat} {q i : Nat} : ∀ k, (sxR S g mo fa q k).testBit i = true ↔ ∃ j, j < k ∧ ((g j = q ∧ (pX S j).toNat.testBit i = true) ∨ ((mo j).testBit q = true ∧ i = 0) ∨ ((fa j).testBit q = true ∧ i = 1))
  | 0 => ⟨fun h => (by rw [show sxR S g mo fa q 0 = 0 from rfl, Nat.zero_testBit] at h; cases h), fun ⟨j, h, _⟩ => absurd h (by omega)⟩
  | k + 1 => by
    have ih := sxR_bit (S := S) (g := g) (mo := mo) (fa := fa) (q := q) (i := i) k
    have e : (sxR S g mo fa q (k + 1)).testBit i = true ↔ (sxR S g mo fa q k).testBit i = true ∨ ((g k = q ∧ (pX S k).toNat.testBit i = true) ∨ ((mo k).testBit q = true ∧ i = 0) ∨ ((fa k).testBit q = true ∧ i = 1)) := by
      rw [sxR, Nat.testBit_or, Nat.testBit_or, Nat.testBit_or, Bool.or_eq_true, Bool.or_eq_true, Bool.or_eq_true]
      have a1 : (if g k = q then (pX S k).toNat else 0).testBit i = true ↔ g k = q ∧ (pX S k).toNat.testBit i = true := by
        by_cases c : g k = q
        · rw [if_pos c]; exact ⟨fun h => ⟨c, h⟩, fun h => h.2⟩
        · rw [if_neg c, Nat.zero_testBit]; exact ⟨fun h => (by cases h), fun h => absurd h.1 c⟩
      have a2 : (if (mo k).testBit q = true then 1 else 0).testBit i = true ↔ (mo k).testBit q = true ∧ i = 0 := by
        by_cases c : (mo k).testBit q = true
        · rw [if_pos c, one_bit]; exact ⟨fun h => ⟨c, h⟩, fun h => h.2⟩
        · rw [if_neg c, Nat.zero_testBit]; exact ⟨fun h => (by cases h), fun h => absurd h.1 c⟩
      have a3 : (if (fa k).testBit q = true then 2 else 0).testBit i = true ↔ (fa k).testBit q = true ∧ i = 1 := by
        by_cases c : (fa k).testBit q = true
        · rw [if_pos c, two_bit]; exact ⟨fun h => ⟨c, h⟩, fun h => h.2⟩
        · rw [if_neg c, Nat.zero_testBit]; exact ⟨fun h => (by cases h), fun h => absurd h.1 c⟩
      rw [a1, a2, a3]
      constructor
      · rintro (((h | h) | h) | h)
        · exact Or.inl h
        · exact Or.inr (Or.inl h)
        · exact Or.inr (Or.inr (Or.inl h))
        · exact Or.inr (Or.inr (Or.inr h))
      · rintro (h | h | h | h)
        · exact Or.inl (Or.inl (Or.inl h))
        · exact Or.inl (Or.inl (Or.inr h))
        · exact Or.inl (Or.inr h)
        · exact Or.inr h
    rw [e, ih]
    constructor
    · rintro (⟨j, a, b⟩ | h)
      · exact ⟨j, by omega, b⟩
      · exact ⟨k, by omega, h⟩
    · rintro ⟨j, a, b⟩
      by_cases e : j = k
      · subst e; exact Or.inr b
      · exact Or.inl ⟨j, by omega, b⟩
theorem sx_eq {n : Nat} {S : Nat → Int} {g : Nat → Nat} {l : List Nat} (hg : gGood n g) (hl : ∀ t ∈ l, StOk n S t) (p : Nat) : sxL S g (sxK S g n) l p = sxR S g (paL S g 2 l) (paL S g 3 l) p n := by
  refine Nat.eq_of_testBit_eq fun i => ?_
  rw [Bool.eq_iff_iff, sxL_bit, sxK_bit, sxR_bit]
  constructor
  · rintro (⟨j, a, b, c⟩ | ⟨t, a, b, c⟩)
    · exact ⟨j, a, Or.inl ⟨b, c⟩⟩
    · refine ⟨g (fA S t), hg.lt (hl t a).a, Or.inr ?_⟩
      rcases c with ⟨c, d⟩ | ⟨c, d⟩
      · exact Or.inl ⟨(paL_bit l).mpr ⟨t, a, c, rfl, b⟩, d⟩
      · exact Or.inr ⟨(paL_bit l).mpr ⟨t, a, c, rfl, b⟩, d⟩
  · rintro ⟨j, a, ⟨b, c⟩ | ⟨b, c⟩ | ⟨b, c⟩⟩
    · exact Or.inl ⟨j, a, b, c⟩
    · obtain ⟨t, h1, h2, h3, h4⟩ := (paL_bit l).mp b
      exact Or.inr ⟨t, h1, h4, Or.inl ⟨h2, c⟩⟩
    · obtain ⟨t, h1, h2, h3, h4⟩ := (paL_bit l).mp b
      exact Or.inr ⟨t, h1, h4, Or.inr ⟨h2, c⟩⟩
/-- who has a sex is one of PEOPLE -/
theorem sx_one {n : Nat} {S : Nat → Int} {g : Nat → Nat} {l : List Nat} (hg : gGood n g) (hl : ∀ t ∈ l, StOk n S t) {p i : Nat} (h : (sxL S g (sxK S g n) l p).testBit i = true) : p < n ∧ g p = p := by
  rw [sxL_bit, sxK_bit] at h
  have go : ∀ j, j < n → g j = p → p < n ∧ g p = p := fun j hj e => by
    subst e
    exact ⟨hg.lt hj, hg.2.1 j⟩
  rcases h with ⟨j, a, b, _⟩ | ⟨t, a, b, c⟩
  · exact go j a b
  · exact go _ ((hl t a).b (isTwo_of (by rcases c with c | c <;> omega))) b
theorem IsFst.cg {N n : Nat} {P Q : Nat → Prop} {v : Int} (hn : n ≤ N) (e : ∀ p, p < N → (P p ↔ p < n ∧ Q p)) (h : IsFst N P v) : IsFst n Q v := by
  rcases h with ⟨p, p1, p2, p3, p4⟩ | ⟨p1, p2⟩
  · have := (e p p1).mp p3
    exact Or.inl ⟨p, this.1, p2, this.2, fun q hq hQ => p4 q hq ((e q (by omega)).mpr ⟨by omega, hQ⟩)⟩
  · exact Or.inr ⟨p1, fun q hq hQ => p2 q (by omega) ((e q (by omega)).mpr ⟨hq, hQ⟩)⟩
theorem cntB_0 : ∀ k, cntB 0 k = 0
  | 0 => rfl
  | k + 1 => by rw [cntB, cntB_0 k, Nat.zero_testBit]; rfl
theorem Rch.first {n : Nat} {pr : Nat → Nat} {p q : Nat} (hp : PaOk n pr) (h : Rch pr p q) : p < n := h (fun a _ => a < n) (fun a b hab => Decidable.byContradiction fun hc => by
  rw [(hp a).2 (by omega), Nat.zero_testBit] at hab; cases hab) (fun _ _ _ h1 _ => h1)
theorem paOk_or {n : Nat} {a b : Nat → Nat} (ha : PaOk n a) (hb : PaOk n b) : PaOk n (fun p => a p ||| b p) := fun p => ⟨Nat.or_lt_two_pow (ha p).1 (hb p).1, fun q => by dsimp only; rw [(ha p).2 q, (hb p).2 q]; rfl⟩
