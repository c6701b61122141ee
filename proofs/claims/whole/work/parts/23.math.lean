/-! what the statements say, as functions of the reference's row S -/
def sN (S : Nat → Int) : Nat := (S 0).toNat
def sT (S : Nat → Int) : Nat := (S 1).toNat
def fS (S : Nat → Int) (t : Nat) : Int := S (242 + 6 * t)
def fA (S : Nat → Int) (t : Nat) : Nat := (S (242 + 6 * t + 1)).toNat
def fB (S : Nat → Int) (t : Nat) : Int := S (242 + 6 * t + 2)
def fL (S : Nat → Int) (t : Nat) : Int := S (242 + 6 * t + 3)
def fH (S : Nat → Int) (t : Nat) : Int := S (242 + 6 * t + 4)
def fV (S : Nat → Int) (t : Nat) : Int := S (242 + 6 * t + 5)
def pL (S : Nat → Int) (p i : Nat) : Int := S (2 + 8 * p + i)
def pX (S : Nat → Int) (p : Nat) : Int := S (2 + 8 * p + 7)
def isTwo (s : Int) : Prop := s ≠ 0 ∧ s ≠ 1 ∧ s ≠ 6
def isYrs (s : Int) : Prop := s = 0 ∨ s = 1 ∨ s = 4
/-- a statement's six numbers are as they may be, among n persons -/
def StOk (n : Nat) (S : Nat → Int) (t : Nat) : Prop := (0 ≤ fS S t ∧ fS S t ≤ 7) ∧ (0 ≤ S (242 + 6 * t + 1) ∧ S (242 + 6 * t + 1) < n) ∧ ((isTwo (fS S t) ∧ 0 ≤ fB S t ∧ fB S t < n) ∨ (¬ isTwo (fS S t) ∧ fB S t = -5)) ∧ (-5 ≤ fL S t ∧ fL S t ≤ 3000 ∧ (isYrs (fS S t) ∨ fS S t = 6 ∨ fS S t = 7 → 0 ≤ fL S t) ∧ (¬ (isYrs (fS S t) ∨ fS S t = 6 ∨ fS S t = 7) → fL S t = -5)) ∧ (-5 ≤ fH S t ∧ fH S t ≤ 3000 ∧ (isYrs (fS S t) → 0 ≤ fH S t) ∧ (¬ isYrs (fS S t) → fH S t = -5)) ∧ (fV S t = 0 ∨ fV S t = 1)
def PeOk (S : Nat → Int) (p : Nat) : Prop := (∃ l : Nat, 1 ≤ l ∧ l ≤ 7 ∧ (∀ i, i < l → 97 ≤ pL S p i ∧ pL S p i ≤ 122) ∧ (∀ i, l ≤ i → i < 7 → pL S p i = 0)) ∧ 0 ≤ pX S p ∧ pX S p ≤ 2
def SOk (M : Nat) (S : Nat → Int) : Prop := (0 ≤ S 0 ∧ S 0 ≤ 30) ∧ (0 ≤ S 1 ∧ S 1 ≤ M) ∧ (∀ p, p < sN S → PeOk S p) ∧ (∀ t, t < sT S → StOk (sN S) S t)
/-- the live ones -/
def isLv (S : Nat → Int) (t : Nat) : Bool := decide (fV S t = 1)
def lvK (S : Nat → Int) (k : Nat) : List Nat := (List.range k).filter (isLv S)
def lv (S : Nat → Int) : List Nat := lvK S (sT S)
theorem lvK_succ (S : Nat → Int) (k : Nat) : lvK S (k + 1) = lvK S k ++ (if isLv S k then [k] else []) := by
  unfold lvK
  rw [List.range_succ, List.filter_append]
  congr 1
  by_cases h : isLv S k = true
  · rw [if_pos h, List.filter_cons_of_pos h]; rfl
  · rw [if_neg h, List.filter_cons_of_neg h]; rfl
def fup {α : Type} (f : Nat → α) (i : Nat) (x : α) : Nat → α := fun j => if j = i then x else f j
theorem fup_eq {α : Type} {f : Nat → α} {i : Nat} {x : α} : fup f i x i = x := if_pos rfl
theorem fup_ne {α : Type} {f : Nat → α} {i j : Nat} {x : α} (h : j ≠ i) : fup f i x j = f j := if_neg h
/-- who is one with whom -/
def jst (S : Nat → Int) (g : Nat → Nat) (t : Nat) : Nat → Nat := if fS S t = 5 then (fun p => if p < sN S ∧ (g p = g (fA S t) ∨ g p = g (fB S t).toNat) then min (g (fA S t)) (g (fB S t).toNat) else g p) else g
def gL (S : Nat → Int) (l : List Nat) : Nat → Nat := l.foldl (jst S) (fun p => p)
def gOf (S : Nat → Int) : Nat → Nat := gL S (lv S)
/-- mothers and fathers, as sets -/
def mst (S : Nat → Int) (g : Nat → Nat) (s : Int) (m : Nat → Nat) (t : Nat) : Nat → Nat := if fS S t = s then fup m (g (fA S t)) (m (g (fA S t)) ||| 2 ^ g (fB S t).toNat) else m
def paL (S : Nat → Int) (g : Nat → Nat) (s : Int) (l : List Nat) : Nat → Nat := l.foldl (mst S g s) (fun _ => 0)
def moOf (S : Nat → Int) : Nat → Nat := paL S (gOf S) 2 (lv S)
def faOf (S : Nat → Int) : Nat → Nat := paL S (gOf S) 3 (lv S)
def prOf (S : Nat → Int) (p : Nat) : Nat := moOf S p ||| faOf S p
theorem gL_snoc (S : Nat → Int) (l : List Nat) (t : Nat) : gL S (l ++ [t]) = jst S (gL S l) t := by
  unfold gL; rw [List.foldl_append]; rfl
theorem paL_snoc (S : Nat → Int) (g : Nat → Nat) (s : Int) (l : List Nat) (t : Nat) : paL S g s (l ++ [t]) = mst S g s (paL S g s l) t := by
  unfold paL; rw [List.foldl_append]; rfl
/-- what is so of the joined ones: never above oneself, a joined one is one with itself -/
def gGood (n : Nat) (g : Nat → Nat) : Prop := (∀ p, g p ≤ p) ∧ (∀ p, g (g p) = g p) ∧ (∀ p, n ≤ p → g p = p)
theorem jst_good {S : Nat → Int} {g : Nat → Nat} {t : Nat} (h : gGood (sN S) g) (ha : fA S t < sN S) (hb : (fB S t).toNat < sN S) : gGood (sN S) (jst S g t) := by
  unfold jst
  by_cases h5 : fS S t = 5
  · rw [if_pos h5]
    obtain ⟨h1, h2, h3⟩ := h
    have qa := h1 (fA S t)
    have qb := h1 (fB S t).toNat
    have ia := h2 (fA S t)
    have ib := h2 (fB S t).toNat
    generalize fA S t = a at *
    generalize (fB S t).toNat = b at *
    refine ⟨fun p => ?_, fun p => ?_, fun p hp => ?_⟩
    · have := h1 p
      show (if p < sN S ∧ (g p = g a ∨ g p = g b) then min (g a) (g b) else g p) ≤ p
      by_cases c : p < sN S ∧ (g p = g a ∨ g p = g b)
      · rw [if_pos c]; omega
      · rw [if_neg c]; exact this
    · show (if (if p < sN S ∧ (g p = g a ∨ g p = g b) then min (g a) (g b) else g p) < sN S ∧ (g (if p < sN S ∧ (g p = g a ∨ g p = g b) then min (g a) (g b) else g p) = g a ∨ g (if p < sN S ∧ (g p = g a ∨ g p = g b) then min (g a) (g b) else g p) = g b) then min (g a) (g b) else g (if p < sN S ∧ (g p = g a ∨ g p = g b) then min (g a) (g b) else g p)) = (if p < sN S ∧ (g p = g a ∨ g p = g b) then min (g a) (g b) else g p)
      by_cases c : p < sN S ∧ (g p = g a ∨ g p = g b)
      · rw [if_pos c]
        have : g (min (g a) (g b)) = g a ∨ g (min (g a) (g b)) = g b := by
          by_cases q : g a ≤ g b
          · rw [Nat.min_eq_left q]; exact Or.inl ia
          · rw [Nat.min_eq_right (by omega)]; exact Or.inr ib
        rw [if_pos ⟨by omega, this⟩]
      · rw [if_neg c, h2 p]
        by_cases d : g p < sN S ∧ (g p = g a ∨ g p = g b)
        · exfalso
          refine c ⟨Decidable.byContradiction fun hn => ?_, d.2⟩
          have := h3 p (by omega)
          omega
        · rw [if_neg d]
    · show (if p < sN S ∧ (g p = g a ∨ g p = g b) then min (g a) (g b) else g p) = p
      rw [if_neg (by omega)]; exact h3 p hp
  · rw [if_neg h5]; exact h
theorem foldl_inv {α β : Type} {f : α → β → α} {I : α → Prop} : ∀ (l : List β) (a : α), I a → (∀ a b, b ∈ l → I a → I (f a b)) → I (l.foldl f a)
  | [], _, h, _ => h
  | b :: l, a, h, hs => foldl_inv l (f a b) (hs a b (List.mem_cons_self ..) h) (fun a c hc => hs a c (List.mem_cons_of_mem _ hc))
theorem lvK_lt {S : Nat → Int} {k t : Nat} (h : t ∈ lvK S k) : t < k ∧ fV S t = 1 := by
  unfold lvK at h
  rw [List.mem_filter, List.mem_range] at h
  exact ⟨h.1, of_decide_eq_true h.2⟩
theorem StOk.a {n : Nat} {S : Nat → Int} {t : Nat} (h : StOk n S t) : fA S t < n := by
  have := h.2.1
  unfold fA
  omega
theorem StOk.b {n : Nat} {S : Nat → Int} {t : Nat} (h : StOk n S t) (h2 : isTwo (fS S t)) : (fB S t).toNat < n := by
  rcases h.2.2.1 with q | q
  · omega
  · exact absurd h2 q.1
theorem gL_good {M : Nat} {S : Nat → Int} (h : SOk M S) : ∀ k, k ≤ sT S → gGood (sN S) (gL S (lvK S k)) := fun k hk => by
  refine foldl_inv _ _ ⟨fun _ => Nat.le_refl _, fun _ => rfl, fun _ _ => rfl⟩ (fun g t ht hg => ?_)
  have ht' := lvK_lt ht
  have ho := h.2.2.2 t (by omega)
  by_cases h5 : fS S t = 5
  · exact jst_good hg ho.a (ho.b ⟨by omega, by omega, by omega⟩)
  · unfold jst; rw [if_neg h5]; exact hg
theorem gOf_good {M : Nat} {S : Nat → Int} (h : SOk M S) : gGood (sN S) (gOf S) := gL_good h _ (Nat.le_refl _)
theorem gGood.lt {n p : Nat} {g : Nat → Nat} (h : gGood n g) (hp : p < n) : g p < n := Nat.lt_of_le_of_lt (h.1 p) hp
