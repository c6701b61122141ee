/-! the class takes its rules -/
def RuL (z : Hp) (t : Nat) (l : List Rl) : Prop := z t 8 = (l.length : Int) ∧ ∀ k r, l[k]? = some r → RuAt z t k r
def AFr (t : Nat) (z z' : Hp) : Prop := (∀ j, j ≠ 8 → z' t j = z t j) ∧ ∀ c, c ≠ t → c ≠ t + 4 → c ≠ t + 5 → c ≠ t + 6 → c ≠ t + 7 → c ≠ t + 8 → z' c = z c
theorem AFr.rf {t : Nat} {z : Hp} : AFr t z z := ⟨fun _ _ => rfl, fun _ _ _ _ _ _ _ => rfl⟩
theorem AFr.tr {t : Nat} {z z' z'' : Hp} (h : AFr t z z') (h' : AFr t z' z'') : AFr t z z'' := ⟨fun j a => by rw [h'.1 j a, h.1 j a], fun c h1 h2 h3 h4 h5 h6 => by rw [h'.2 c h1 h2 h3 h4 h5 h6, h.2 c h1 h2 h3 h4 h5 h6]⟩
theorem w_X3_addLess {t : Nat} {z : Hp} {K : Hp → Prop} {l : List Rl} (r : Rl) {a1 a2 a3 a4 a5 : Int} (h1 : a1 = r.1) (h2 : a2 = r.2.1) (h3 : a3 = r.2.2.1) (h4 : a4 = r.2.2.2.1) (h5 : a5 = r.2.2.2.2) (hl : l.length < 335) (h : RuL z t l) (k : ∀ z' : Hp, RuL z' t (l ++ [r]) → AFr t z z' → K z') : cal_X3_addLess t a1 a2 a3 a4 a5 z K := by
  obtain ⟨e8, hr⟩ := h
  have ib : inb (l.length : Int) 335 := ⟨by omega, by omega⟩
  unfold cal_X3_addLess
  rw [e8]
  refine ⟨⟨by omega, by omega⟩, ?_⟩
  rw [if_neg (by omega), Int.toNat_natCast]
  have q1 : kup z (t + 4) l.length a1 t 8 = l.length := by rw [kup_c (by omega)]; exact e8
  refine ⟨ib, hp_i ?_⟩
  rw [q1, Int.toNat_natCast]
  have q2 : kup (kup z (t + 4) l.length a1) (t + 5) l.length a2 t 8 = l.length := by rw [kup_c (by omega)]; exact q1
  refine ⟨ib, hp_i ?_⟩
  rw [q2, Int.toNat_natCast]
  have q3 : kup (kup (kup z (t + 4) l.length a1) (t + 5) l.length a2) (t + 6) l.length a3 t 8 = l.length := by rw [kup_c (by omega)]; exact q2
  refine ⟨ib, hp_i ?_⟩
  rw [q3, Int.toNat_natCast]
  have q4 : kup (kup (kup (kup z (t + 4) l.length a1) (t + 5) l.length a2) (t + 6) l.length a3) (t + 7) l.length a4 t 8 = l.length := by rw [kup_c (by omega)]; exact q3
  refine ⟨ib, hp_i ?_⟩
  rw [q4, Int.toNat_natCast]
  have q5 : kup (kup (kup (kup (kup z (t + 4) l.length a1) (t + 5) l.length a2) (t + 6) l.length a3) (t + 7) l.length a4) (t + 8) l.length a5 t 8 = l.length := by rw [kup_c (by omega)]; exact q4
  refine ⟨ib, hp_i (hp_i ?_)⟩
  rw [q5]
  refine k _ ⟨?_, fun i r' hi => ?_⟩ ⟨fun j hj => ?_, fun c c0 c4 c5 c6 c7 c8 => ?_⟩
  · rw [kup_eq, List.length_append, List.length_singleton]; omega
  · by_cases e : i = l.length
    · subst e
      rw [List.getElem?_append_right (Nat.le_refl _), Nat.sub_self] at hi
      cases hi
      unfold RuAt
      rw [← h1, ← h2, ← h3, ← h4, ← h5]
      refine ⟨?_, ?_, ?_, ?_, ?_⟩ <;> simp [kup]
    · have hlt : i < l.length := by
        have := (List.getElem?_eq_some_iff.mp hi).1
        rw [List.length_append, List.length_singleton] at this
        omega
      rw [List.getElem?_append_left hlt] at hi
      have w := hr i r' hi
      refine ⟨?_, ?_, ?_, ?_, ?_⟩
      · rw [kup_c (by omega), kup_c (by omega), kup_c (by omega), kup_c (by omega), kup_c (by omega), kup_n (fun q => e q.2)]; exact w.1
      · rw [kup_c (by omega), kup_c (by omega), kup_c (by omega), kup_c (by omega), kup_n (fun q => e q.2), kup_c (by omega)]; exact w.2.1
      · rw [kup_c (by omega), kup_c (by omega), kup_c (by omega), kup_n (fun q => e q.2), kup_c (by omega), kup_c (by omega)]; exact w.2.2.1
      · rw [kup_c (by omega), kup_c (by omega), kup_n (fun q => e q.2), kup_c (by omega), kup_c (by omega), kup_c (by omega)]; exact w.2.2.2.1
      · rw [kup_c (by omega), kup_n (fun q => e q.2), kup_c (by omega), kup_c (by omega), kup_c (by omega), kup_c (by omega)]; exact w.2.2.2.2
  · rw [kup_n (fun q => hj q.2), kup_c (by omega), kup_c (by omega), kup_c (by omega), kup_c (by omega), kup_c (by omega)]
  · funext q; rw [kup_c c0, kup_c c8, kup_c c7, kup_c c6, kup_c c5, kup_c c4]
theorem w_X3_addIn {t : Nat} {z : Hp} {K : Hp → Prop} {l : List Rl} (x : Nat) {a1 a3 a4 a5 : Int} (h1 : a1 = x) (hl : l.length < 335) (h : RuL z t l) (k : ∀ z' : Hp, RuL z' t (l ++ [(x, -1, a3, a4, a5)]) → AFr t z z' → K z') : cal_X3_addIn t a1 a3 a4 a5 z K :=
  w_X3_addLess (x, -1, a3, a4, a5) h1 rfl rfl rfl rfl hl h k
theorem w_add {t : Nat} {z : Hp} {K : Hp → Prop} {l : List Rl} (x y : Nat) {a1 a2 a3 a4 a5 : Int} (h1 : a1 = x) (h2 : a2 = y) (hl : l.length < 335) (h : RuL z t l) (k : ∀ z' : Hp, RuL z' t (l ++ [(x, (y : Int), a3, a4, a5)]) → AFr t z z' → K z') : cal_X3_addLess t a1 a2 a3 a4 a5 z K :=
  w_X3_addLess (x, (y : Int), a3, a4, a5) h1 h2 rfl rfl rfl hl h k
theorem w_X3_takeLife {t p : Nat} {z : Hp} {K : Hp → Prop} {l : List Rl} (hl : l.length < 335) (h : RuL z t l) (k : ∀ z' : Hp, RuL z' t (l ++ [(2 * p + 1, ((2 * p : Nat) : Int), 0, 110, 100 + (p : Int))]) → AFr t z z' → K z') : cal_X3_takeLife t p z K :=
  w_add (2 * p + 1) (2 * p) (by omega) (by omega) hl h k
theorem w_X3_addMarriedOne {t a y : Nat} {z : Hp} {K : Hp → Prop} {l : List Rl} (hl : l.length + 1 < 335) (h : RuL z t l) (k : ∀ z' : Hp, RuL z' t (l ++ [(60 + y, ((2 * a : Nat) : Int), 14, 110, (y : Int)), (2 * a + 1, ((60 + y : Nat) : Int), 0, 100000, (y : Int))]) → AFr t z z' → K z') : cal_X3_addMarriedOne t a y z K := by
  refine lt_i ?_
  refine w_add (60 + y) (2 * a) (by omega) (by omega) (by omega) h (fun z1 r1 f1 => ?_)
  refine w_add (2 * a + 1) (60 + y) (by omega) (by omega) (by rw [List.length_append, List.length_singleton]; omega) r1 (fun z2 r2 f2 => k z2 ?_ (f1.tr f2))
  rw [List.append_assoc] at r2
  exact r2
set_option maxHeartbeats 1000000 in
theorem w_X3_takeStatement {t r1 r2 n m τ : Nat} {z : Hp} {K : Hp → Prop} {S : Nat → Int} {g : Nat → Nat} {l : List Rl} (hn : n ≤ 30) (hm : m ≤ 61) (hτ : τ < m) (hb : BkSt z r1 S m) (hg : Row z (r2 + 1) g) (ho : StOk n S τ) (hgg : gGood n g) (hl : l.length + 5 ≤ 335) (h : RuL z t l) (k : ∀ z' : Hp, RuL z' t (l ++ rls S g τ) → AFr t z z' → K z') : cal_X3_takeStatement t r1 r2 τ z K := by
  obtain ⟨b1, b2, b3, b4, b5⟩ := hb τ hτ
  have ib : inb (τ : Int) 61 := ⟨by omega, by omega⟩
  have ha := ho.a
  have hbn : ¬ fB S τ < 0 → (fB S τ).toNat < n := fun c => by rcases ho.2.2.1 with q | q <;> omega
  have rB : rg (fB S τ) := by rcases ho.2.2.1 with q | q <;> constructor <;> omega
  have rS : rg (fS S τ) := ho.rgs.1
  unfold cal_X3_takeStatement
  rw [Int.toNat_natCast, b1, b2, b3, b4, b5, Int.toNat_natCast, hg _ (by omega)]
  refine ⟨ib, ⟨by omega, by omega⟩, lt_i ⟨ib, ?_⟩⟩
  refine jn_i (fun J => J ((if fB S τ < 0 then g (fA S τ) else g (fB S τ).toNat : Nat) : Int)) ?_ (fun J hJ => ?_)
  rotate_left
  · refine ⟨rB, w_ite (fun c => ?_) (fun c => ?_)⟩
    · have q1 := hbn (by omega)
      refine ⟨ib, ⟨by omega, by omega⟩, lt_i ?_⟩
      rw [hg _ (by omega)]
      rw [if_neg (by omega)] at hJ
      exact hJ
    · rw [if_pos (by omega)] at hJ
      exact lt_i hJ
  refine ⟨ib, lt_i ⟨ib, rS, ?_⟩⟩
  generalize eq : rls S g τ = L at *
  unfold rls at eq
  simp only at eq
  generalize (if fB S τ < 0 then g (fA S τ) else g (fB S τ).toNat) = b at *
  generalize g (fA S τ) = a at *
  have q0 := ho.1
  have ll : ∀ (l : List Rl) (r : Rl), (l ++ [r]).length = l.length + 1 := fun l r => by rw [List.length_append, List.length_singleton]
  refine w_ite (fun q => ?_) (fun q0 => ?_)
  · rw [if_pos q] at eq
    subst eq
    refine And.intro ib ?_
    exact w_X3_addIn (2 * a) (by omega) (by omega) h k
  rw [if_neg q0] at eq
  refine w_ite (fun q => ?_) (fun q1 => ?_)
  · rw [if_pos q] at eq
    subst eq
    refine And.intro ib ?_
    exact w_X3_addIn (2 * a + 1) (by omega) (by omega) h k
  rw [if_neg q1] at eq
  refine w_ite (fun q => ?_) (fun q2 => ?_)
  · rw [if_pos q] at eq
    subst eq
    refine w_add (2 * a) (2 * b) (by omega) (by omega) (by omega) h (fun z1 r1 f1 => ?_)
    refine w_add (2 * b + 1) (2 * a) (by omega) (by omega) (by rw [ll]; omega) r1 (fun z2 r2 f2 => k z2 ?_ (f1.tr f2))
    rw [List.append_assoc] at r2
    exact r2
  rw [if_neg q2] at eq
  refine w_ite (fun q => ?_) (fun q3 => ?_)
  · rw [if_pos q] at eq
    subst eq
    refine w_add (2 * a) (2 * b) (by omega) (by omega) (by omega) h (fun z1 r1 f1 => ?_)
    refine w_add (2 * b + 1) (2 * a) (by omega) (by omega) (by rw [ll]; omega) r1 (fun z2 r2 f2 => k z2 ?_ (f1.tr f2))
    rw [List.append_assoc] at r2
    exact r2
  rw [if_neg q3] at eq
  refine w_ite (fun q => ⟨ib, ?_⟩) (fun q4 => ?_)
  · rw [if_pos q] at eq
    subst eq
    refine w_X3_addIn (60 + τ) (by omega) (by omega) h (fun z1 r1 f1 => ?_)
    refine w_X3_addMarriedOne (by rw [ll]; omega) r1 (fun z2 r2 f2 => ?_)
    refine w_X3_addMarriedOne (by rw [List.length_append, ll]; simp only [List.length_cons, List.length_nil]; omega) r2 (fun z3 r3 f3 => k z3 ?_ (f1.tr (f2.tr f3)))
    rw [List.append_assoc, List.append_assoc] at r3
    exact r3
  rw [if_neg q4] at eq
  refine w_ite (fun q => ?_) (fun q5 => ?_)
  · rw [if_neg (by omega), if_neg (by omega)] at eq
    subst eq
    exact k z (by rw [List.append_nil]; exact h) AFr.rf
  refine w_ite (fun q => ?_) (fun q6 => ?_)
  · rw [if_pos q] at eq
    subst eq
    refine w_X3_addIn (2 * a) (by omega) (by omega) h (fun z1 r1 f1 => ?_)
    refine w_X3_addIn (2 * a + 1) (by omega) (by rw [ll]; omega) r1 (fun z2 r2 f2 => k z2 ?_ (f1.tr f2))
    rw [List.append_assoc] at r2
    exact r2
  rw [if_neg q6] at eq
  refine w_ite (fun q => ?_) (fun q7 => ?_)
  · rw [if_pos q] at eq
    subst eq
    exact w_add (2 * b) (2 * a) (by omega) (by omega) (by omega) h k
  · rw [if_neg q7] at eq
    subst eq
    exact k z (by rw [List.append_nil]; exact h) AFr.rf
