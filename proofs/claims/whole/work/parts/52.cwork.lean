/-! the class's world: ranges at the start, first clashes, rules, rounds -/
def cSt (v : Int) : RSt := (rE rSt0, rR rSt0, rF rSt0, 0, -5, v)
theorem cSt_run (v : Int) (l : List Rl) : ∀ (F k : Nat), 1 ≤ F → runR l F k (cSt v) = runR l F k rSt0
  | F + 1, k, _ => rfl
theorem w_X3_wipe {t : Nat} {z : Hp} {K : Hp → Prop} (k : ∀ z' : Hp, ClsR z' t (cSt (z t 11)) → z' t 8 = 0 → z' t 9 = 0 → (∀ j, j ≠ 8 → j ≠ 9 → j ≠ 10 → z' t j = z t j) → (∀ c, c ≠ t → c ≠ t + 1 → c ≠ t + 2 → c ≠ t + 3 → z' c = z c) → K z') : cal_X3_wipe t z K := by
  show LP1 _ 0 z
  refine LP1_for 121 (fun j z' => (∀ e, e < 2 * j → z' (t + 1) e = rE rSt0 e) ∧ ∀ c, c ≠ t + 1 → z' c = z c) 0 rfl (by omega) ⟨fun e he => absurd he (by omega), fun _ _ => rfl⟩ (fun X j z1 hj hI hX => ?_) (fun X z1 hI => ?_)
  · refine w_if ⟨by omega, by omega⟩ (fun e => absurd e (by omega)) (fun _ => ?_)
    rw [show (2 * (j : Int)) = ((2 * j : Nat) : Int) by omega, show (((2 * j : Nat) : Int) + 1) = ((2 * j + 1 : Nat) : Int) by omega, Int.toNat_natCast, Int.toNat_natCast]
    refine ⟨⟨by omega, by omega⟩, hp_i ⟨⟨by omega, by omega⟩, hp_i (hX _ ⟨fun e he => ?_, fun c hc => ?_⟩)⟩⟩
    · by_cases e1 : e = 2 * j + 1
      · subst e1; rw [kup_eq]; exact (if_neg (by omega)).symm
      · rw [kup_n (fun q => e1 q.2)]
        by_cases e2 : e = 2 * j
        · subst e2; rw [kup_eq]; exact (if_pos (by omega)).symm
        · rw [kup_n (fun q => e2 q.2)]; exact hI.1 e (by omega)
    · funext q; rw [kup_c hc, kup_c hc, hI.2 c hc]
  obtain ⟨i1, i2⟩ := hI
  refine w_if ⟨by omega, by omega⟩ (fun _ => ?_) (fun e => absurd e (by omega))
  show LP1 _ 0 z1
  refine LP1_for 242 (fun j z' => (∀ e, e < 240 → z' (t + 1) e = rE rSt0 e) ∧ (∀ e, e < j → z' (t + 2) e = -1 ∧ z' (t + 3) e = -1) ∧ z' t = z t ∧ ∀ c, c ≠ t → c ≠ t + 1 → c ≠ t + 2 → c ≠ t + 3 → z' c = z c) 0 rfl (by omega) ⟨fun e he => i1 e (by omega), fun e he => absurd he (by omega), i2 t (by omega), fun c _ h _ _ => i2 c h⟩ (fun X j z2 hj hI hX => ?_) (fun X z2 hI => ?_)
  · obtain ⟨j1, j2, j3, j4⟩ := hI
    refine w_if ⟨by omega, by omega⟩ (fun e => absurd e (by omega)) (fun _ => ?_)
    rw [Int.toNat_natCast]
    refine ⟨⟨by omega, by omega⟩, hp_i ⟨⟨by omega, by omega⟩, hp_i (hX _ ⟨fun e he => ?_, fun e he => ?_, ?_, fun c c0 c1 c2 c3 => ?_⟩)⟩⟩
    · rw [kup_c (by omega), kup_c (by omega)]; exact j1 e he
    · by_cases e1 : e = j
      · subst e1; exact ⟨by rw [kup_c (by omega), kup_eq], kup_eq⟩
      · rw [kup_c (by omega), kup_n (fun q => e1 q.2), kup_n (fun q => e1 q.2), kup_c (by omega)]; exact j2 e (by omega)
    · funext q; rw [kup_c (by omega), kup_c (by omega), j3]
    · funext q; rw [kup_c c3, kup_c c2, j4 c c0 c1 c2 c3]
  · obtain ⟨j1, j2, j3, j4⟩ := hI
    refine w_if ⟨by omega, by omega⟩ (fun _ => hp_i (hp_i (hp_i (k _ ⟨fun e he => ?_, ?_, ?_⟩ ?_ ?_ (fun j a b c => ?_) (fun c c0 c1 c2 c3 => ?_))))) (fun e => absurd e (by omega))
    · have n1 : t + 1 ≠ t := by omega
      have n2 : t + 2 ≠ t := by omega
      have n3 : t + 3 ≠ t := by omega
      rw [kup_c n1, kup_c n1, kup_c n1, kup_c n2, kup_c n2, kup_c n2, kup_c n3, kup_c n3, kup_c n3]
      exact ⟨j1 e he, (j2 e (by omega)).1, (j2 e (by omega)).2⟩
    · rw [kup_eq]; rfl
    · rw [kup_n (fun q => absurd q.2 (by decide)), kup_n (fun q => absurd q.2 (by decide)), kup_n (fun q => absurd q.2 (by decide)), j3]; rfl
    · rw [kup_n (fun q => absurd q.2 (by decide)), kup_n (fun q => absurd q.2 (by decide)), kup_eq]
    · rw [kup_n (fun q => absurd q.2 (by decide)), kup_eq]
    · rw [kup_n (fun q => c q.2), kup_n (fun q => b q.2), kup_n (fun q => a q.2), j3]
    · funext q; rw [kup_c c0, kup_c c0, kup_c c0, j4 c c0 c1 c2 c3]
theorem w_X1_leastOfBothSexes {t : Nat} {sx : Nat → Nat} {z : Hp} {K : Int → Prop} (hr : Row z (t + 3) sx) (hb : ∀ p, sx p < 4) (k : ∀ v, IsFst 30 (fun p => sx p = 3) v → K v) : cal_X1_leastOfBothSexes t z K := by
  show LQ1 _ 0
  refine LQ1_for 30 (fun j => ∀ q, q < j → ¬ sx q = 3) 0 rfl (by omega) (fun q hq => absurd hq (by omega)) (fun X j hj hI hX => ?_) (fun X hI => ?_)
  · have := hb j
    refine w_if ⟨by omega, by omega⟩ (fun e => absurd e (by omega)) (fun _ => ⟨⟨by omega, by omega⟩, ?_⟩)
    rw [Int.toNat_natCast, hr j hj]
    refine w_if ⟨by omega, by omega⟩ (fun e => k _ (Or.inl ⟨j, hj, rfl, by omega, hI⟩)) (fun e => hX (fun q hq => ?_))
    by_cases e1 : q = j
    · subst e1; omega
    · exact hI q (by omega)
  · exact w_if ⟨by omega, by omega⟩ (fun _ => k _ (Or.inr ⟨rfl, hI⟩)) (fun e => absurd e (by omega))
theorem w_X1_leastOfUnlikeParents {t : Nat} {mo fa : Nat → Nat} {z : Hp} {K : Int → Prop} (h4 : Row z (t + 4) mo) (h5 : Row z (t + 5) fa) (hm : ∀ p, p < 30 → mo p < 1073741824) (hf : ∀ p, p < 30 → fa p < 1073741824) (k : ∀ v, IsFst 30 (fun p => 1 < cntB (mo p) 30 ∨ 1 < cntB (fa p) 30) v → K v) : cal_X1_leastOfUnlikeParents t z K := by
  show LQ1 _ 0
  refine LQ1_for 30 (fun j => ∀ q, q < j → ¬ (1 < cntB (mo q) 30 ∨ 1 < cntB (fa q) 30)) 0 rfl (by omega) (fun q hq => absurd hq (by omega)) (fun X j hj hI hX => ?_) (fun X hI => ?_)
  · have u1 := cntB_ub (mo j) 30
    have u2 := cntB_ub (fa j) 30
    refine w_if ⟨by omega, by omega⟩ (fun e => absurd e (by omega)) (fun _ => ⟨⟨by omega, by omega⟩, ?_⟩)
    rw [Int.toNat_natCast, h4 j hj]
    refine w_bitCount (hm j hj) (w_if ⟨by omega, by omega⟩ (fun e => k _ (Or.inl ⟨j, hj, rfl, Or.inl (by omega), hI⟩)) (fun e => ⟨⟨by omega, by omega⟩, ?_⟩))
    rw [h5 j hj]
    refine w_bitCount (hf j hj) (w_if ⟨by omega, by omega⟩ (fun e' => hX (fun q hq => ?_)) (fun e' => k _ (Or.inl ⟨j, hj, rfl, Or.inr (by omega), hI⟩)))
    by_cases e1 : q = j
    · subst e1; omega
    · exact hI q (by omega)
  · exact w_if ⟨by omega, by omega⟩ (fun _ => k _ (Or.inr ⟨rfl, hI⟩)) (fun e => absurd e (by omega))
/-- the clash of the first three sorts, by the first of each -/
def clOf (v1 v2 v3 : Int) : Int × Int := if 0 ≤ v1 then (1, v1) else if 0 ≤ v2 then (2, v2) else if 0 ≤ v3 then (3, v3) else (0, -5)
theorem IsFst.neg {n : Nat} {P : Nat → Prop} {v : Int} (h : IsFst n P v) (hv : v < 0) : v = -5 ∧ ∀ p, p < n → ¬ P p := by
  rcases h with ⟨p, _, rfl, _⟩ | h
  · omega
  · exact h
theorem IsFst.pos {n : Nat} {P : Nat → Prop} {v : Int} (h : IsFst n P v) (hv : 0 ≤ v) : ∃ p : Nat, p < n ∧ v = p ∧ P p ∧ ∀ q, q < p → ¬ P q := by
  rcases h with h | ⟨rfl, _⟩
  · exact h
  · omega
theorem clOf_lk {n : Nat} {P1 P2 P3 : Nat → Prop} {v1 v2 v3 : Int} (h1 : IsFst n P1 v1) (h2 : IsFst n P2 v2) (h3 : IsFst n P3 v3) : LkIs' n P1 P2 P3 (clOf v1 v2 v3).1 (clOf v1 v2 v3).2 := by
  unfold clOf
  by_cases c1 : 0 ≤ v1
  · rw [if_pos c1]
    obtain ⟨p, a, b, c, d⟩ := h1.pos c1
    exact Or.inr (Or.inr ⟨show (1 : Int) ≠ 0 by decide, Or.inr (Or.inr ⟨show (1 : Int) ≠ 0 by decide, Or.inr (Or.inl ⟨rfl, trivial, p, a, b, c, d⟩)⟩)⟩)
  · rw [if_neg c1]
    have n1 := (h1.neg (by omega)).2
    by_cases c2 : 0 ≤ v2
    · rw [if_pos c2]
      obtain ⟨p, a, b, c, d⟩ := h2.pos c2
      exact Or.inr (Or.inr ⟨show (2 : Int) ≠ 0 by decide, Or.inr (Or.inl ⟨rfl, ⟨trivial, n1⟩, p, a, b, c, d⟩)⟩)
    · rw [if_neg c2]
      have n2 := (h2.neg (by omega)).2
      by_cases c3 : 0 ≤ v3
      · rw [if_pos c3]
        obtain ⟨p, a, b, c, d⟩ := h3.pos c3
        exact Or.inr (Or.inl ⟨rfl, ⟨⟨trivial, n1⟩, n2⟩, p, a, b, c, d⟩)
      · rw [if_neg c3]
        exact Or.inl ⟨rfl, rfl, ⟨⟨trivial, n1⟩, n2⟩, (h3.neg (by omega)).2⟩
theorem LkS.uq {c : Int} {P : Nat → Prop} {Q : Prop} {n : Nat} {cl wh cl' wh' : Int} {old : Int → Int → Prop} (hc : c ≠ 0) (hold : ∀ a b, old a b → ¬ Q) (huq : ∀ a b a' b', old a b → old a' b' → a = a' ∧ b = b') (h : LkS c P Q n cl wh old) (h' : LkS c P Q n cl' wh' old) : cl = cl' ∧ wh = wh' := by
  rcases h with ⟨a1, a2, a3, a4⟩ | ⟨a1, a3, p, a4, a5, a6, a7⟩ | ⟨a1, a2⟩ <;> rcases h' with ⟨b1, b2, b3, b4⟩ | ⟨b1, b3, q, b4, b5, b6, b7⟩ | ⟨b1, b2⟩
  · exact ⟨by omega, by omega⟩
  · exact absurd b6 (a4 q b4)
  · exact absurd a3 (hold _ _ b2)
  · exact absurd a6 (b4 p a4)
  · have : ¬ p < q := fun r => b7 p r a6
    have : ¬ q < p := fun r => a7 q r b6
    exact ⟨by omega, by omega⟩
  · exact absurd a3 (hold _ _ b2)
  · exact absurd b3 (hold _ _ a2)
  · exact absurd b3 (hold _ _ a2)
  · exact huq _ _ _ _ a2 b2
theorem LkS.some {c : Int} {P : Nat → Prop} {Q : Prop} {n : Nat} {cl wh : Int} {old : Int → Int → Prop} (h : LkS c P Q n cl wh old) (hn : cl ≠ 0) : (Q ∧ ∃ p, p < n ∧ P p) ∨ old cl wh := by
  rcases h with ⟨h0, _⟩ | ⟨_, h1, p, h2, _, h3, _⟩ | ⟨_, h⟩
  · exact absurd h0 hn
  · exact Or.inl ⟨h1, p, h2, h3⟩
  · exact Or.inr h
theorem LkIs'.uq {n : Nat} {P1 P2 P3 : Nat → Prop} {cl wh cl' wh' : Int} (h : LkIs' n P1 P2 P3 cl wh) (h' : LkIs' n P1 P2 P3 cl' wh') : cl = cl' ∧ wh = wh' := by
  have g1 : ∀ (a b : Int), LkS 1 P1 True n a b (fun _ _ => False) → a ≠ 0 → ∃ p, p < n ∧ P1 p := fun a b h hn => (h.some hn).elim (fun q => q.2) (fun q => q.elim)
  have u1 : ∀ (a b a' b' : Int), LkS 1 P1 True n a b (fun _ _ => False) → LkS 1 P1 True n a' b' (fun _ _ => False) → a = a' ∧ b = b' := fun a b a' b' h h' => LkS.uq (by decide) (fun _ _ q => q.elim) (fun _ _ _ _ q _ => q.elim) h h'
  -- the second sort
  have dead : ∀ (c : Int) (P : Nat → Prop) (Q : Prop) (old : Int → Int → Prop) (a b : Int), c ≠ 0 → LkS c P Q n a b (fun x y => x ≠ 0 ∧ old x y) → LkS c P Q n a b old := fun c P Q old a b hc h => h.elim Or.inl (fun h => h.elim (fun h => Or.inr (Or.inl h)) (fun h => Or.inr (Or.inr ⟨h.1, h.2.2⟩)))
  have live : ∀ (c : Int) (P : Nat → Prop) (Q : Prop) (old : Int → Int → Prop) (a b : Int), LkS c P Q n a b old → LkS c P Q n a b (fun x y => x ≠ 0 ∧ old x y) := fun c P Q old a b h => h.elim Or.inl (fun h => h.elim (fun h => Or.inr (Or.inl h)) (fun h => Or.inr (Or.inr ⟨h.1, h.1, h.2⟩)))
  have u2 : ∀ (a b a' b' : Int), LkS 2 P2 (True ∧ ∀ q, q < n → ¬ P1 q) n a b (fun cl wh => LkS 1 P1 True n cl wh (fun _ _ => False)) → LkS 2 P2 (True ∧ ∀ q, q < n → ¬ P1 q) n a' b' (fun cl wh => LkS 1 P1 True n cl wh (fun _ _ => False)) → a = a' ∧ b = b' := fun a b a' b' h h' => LkS.uq (by decide) (fun x y q r => by
      obtain ⟨p, p1, p2⟩ := g1 x y q.2 q.1
      exact r.2 p p1 p2) (fun x y x' y' q q' => u1 x y x' y' q.2 q'.2) (live _ _ _ _ _ _ h) (live _ _ _ _ _ _ h')
  have g2 : ∀ (a b : Int), LkS 2 P2 (True ∧ ∀ q, q < n → ¬ P1 q) n a b (fun cl wh => LkS 1 P1 True n cl wh (fun _ _ => False)) → a ≠ 0 → ¬ ((True ∧ ∀ q, q < n → ¬ P1 q) ∧ ∀ q, q < n → ¬ P2 q) := fun a b h hn r => by
    rcases h.some hn with ⟨_, p, p1, p2⟩ | h
    · exact r.2 p p1 p2
    · obtain ⟨p, p1, p2⟩ := g1 a b h hn
      exact r.1.2 p p1 p2
  exact LkS.uq (by decide) (fun x y q => g2 x y q.2 q.1) (fun x y x' y' q q' => u2 x y x' y' q.2 q'.2) (live _ _ _ _ _ _ h) (live _ _ _ _ _ _ h')
theorem w_X8_note {t : Nat} {c v : Int} {z : Hp} {K : Hp → Prop} (hr : rg (z t 4)) (hv : rg v) (k : ∀ z' : Hp, z' t 4 = (if z t 4 = 0 ∧ 0 ≤ v then c else z t 4) → z' t 5 = (if z t 4 = 0 ∧ 0 ≤ v then v else z t 5) → (∀ j, j ≠ 4 → j ≠ 5 → z' t j = z t j) → (∀ c, c ≠ t → z' c = z c) → K z') : cal_X8_note t c v z K := by
  refine w_if hr (fun e => w_if hv (fun e' => k z ?_ ?_ (fun _ _ _ => rfl) (fun _ _ => rfl)) (fun e' => hp_i (hp_i (k _ ?_ ?_ (fun j a b => ?_) (fun c hc => ?_))))) (fun e => k z ?_ ?_ (fun _ _ _ => rfl) (fun _ _ => rfl))
  · rw [if_neg (fun q => absurd q.2 (by omega))]
  · rw [if_neg (fun q => absurd q.2 (by omega))]
  · rw [if_pos ⟨e, by omega⟩, kup_n (fun q => absurd q.2 (by decide)), kup_eq]
  · rw [if_pos ⟨e, by omega⟩, kup_eq]
  · rw [kup_n (fun q => b q.2), kup_n (fun q => a q.2)]
  · funext q; rw [kup_c hc, kup_c hc]
  · rw [if_neg (fun q => e q.1)]
  · rw [if_neg (fun q => e q.1)]
