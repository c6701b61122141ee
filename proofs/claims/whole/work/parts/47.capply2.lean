def RuAt (z : Hp) (t k : Nat) (r : Rl) : Prop := z (t + 4) k = r.1 ∧ z (t + 5) k = r.2.1 ∧ z (t + 6) k = r.2.2.1 ∧ z (t + 7) k = r.2.2.2.1 ∧ z (t + 8) k = r.2.2.2.2
theorem RuAt.to {z z' : Hp} {t k : Nat} {r : Rl} (h : RuAt z t k r) (f : ∀ c, c ≠ t → c ≠ t + 1 → c ≠ t + 2 → c ≠ t + 3 → z' c = z c) : RuAt z' t k r := by
  unfold RuAt
  rw [f (t + 4) (by omega) (by omega) (by omega) (by omega), f (t + 5) (by omega) (by omega) (by omega) (by omega), f (t + 6) (by omega) (by omega) (by omega) (by omega), f (t + 7) (by omega) (by omega) (by omega) (by omega), f (t + 8) (by omega) (by omega) (by omega) (by omega)]
  exact h
theorem apl_wh {s : RSt} {r : Rl} (hr : RlOk r) (h : WhOk s) : WhOk (apl s r) := by
  obtain ⟨x, y, c, d, ru⟩ := r
  obtain ⟨h1, h2, h3, h4⟩ := hr
  dsimp only at h1 h2 h3 h4
  unfold apl
  split
  · exact nar_wh (by dsimp only; omega) (nar_wh (by dsimp only; omega) h)
  · exact nar_wh (by dsimp only; omega) (nar_wh (by dsimp only; omega) (nar_wh (by dsimp only; omega) (nar_wh (by dsimp only; omega) h)))
theorem w_X3_apply {t k : Nat} {z : Hp} {K : Hp → Prop} {r : Rl} {s : RSt} (hk : k < 335) (hr : RlOk r) (hru : 0 ≤ r.2.2.2.2) (hy : -1 ≤ r.2.1) (ha : RuAt z t k r) (hs : ClsR z t s) (hb : RB s) (hw : WhOk s) (kk : ∀ z' : Hp, ClsR z' t (apl s r) → CFr t z z' → K z') : cal_X3_apply t k z K := by
  obtain ⟨x, y, c, d, ru⟩ := r
  obtain ⟨h1, h2, h3, h4⟩ := hr
  dsimp only at h1 h2 h3 h4 hru hy
  have ib : inb (k : Int) 335 := ⟨by omega, by omega⟩
  obtain ⟨a4, a5, a6, a7, a8⟩ := id ha
  dsimp only at a4 a5 a6 a7 a8
  unfold cal_X3_apply
  rw [Int.toNat_natCast, a4, a5, a6]
  refine ⟨ib, lt_i ⟨ib, lt_i ⟨⟨by omega, by omega⟩, w_ite (fun hy0 => ?_) (fun hy0 => ?_)⟩⟩⟩
  · obtain ⟨y, rfl⟩ : ∃ y' : Nat, y = y' := ⟨y.toNat, by omega⟩
    have ee : ∀ x : Nat, (2 * (x : Int)) = ((2 * x : Nat) : Int) := fun x => by omega
    have ef : ∀ x : Nat, (((2 * x : Nat) : Int) + 1) = ((2 * x + 1 : Nat) : Int) := fun x => by omega
    have i2 : ∀ e : Nat, e < 240 → inb (e : Int) 242 := fun e he => ⟨by omega, by omega⟩
    rw [ee x, ee y, ef x, ef y, Int.toNat_natCast, Int.toNat_natCast, Int.toNat_natCast, Int.toNat_natCast, (hs.1 (2 * y) (by omega)).1]
    have b0 := hb.1 (2 * y)
    refine ⟨i2 _ (by omega), ib, w_X3_raise (b := ((2 * y : Nat) : Int)) h1 ⟨by omega, by omega⟩ hk (Or.inr ⟨by omega, by omega, by omega⟩) hs hb hw a8 hru (fun z1 s1 f1 => ⟨i2 _ (by omega), ib, ?_⟩)⟩
    have v1 : rCl s = 0 → (-10000 ≤ (rE s (2 * y) + c) ∧ (rE s (2 * y) + c) ≤ 10000) ∨ ((2 * x) % 2 = 1 ∧ 3000 ≤ (rE s (2 * y) + c)) ∨ ((2 * x) % 2 = 0 ∧ (rE s (2 * y) + c) ≤ 0) := fun q => by have := hb.2.1 q (2 * y); omega
    have hb1 := nar_RB' (ru := ru) (b := ((2 * y : Nat) : Int)) hb v1
    have hw1 : WhOk (nar ru (2 * x) (rE s (2 * y) + c) ((2 * y : Nat) : Int) s) := nar_wh (by omega) hw
    have r1 := ha.to f1.2
    generalize g1 : nar ru (2 * x) (rE s (2 * y) + c) ((2 * y : Nat) : Int) s = t1 at *
    rw [(s1.1 (2 * y + 1) (by omega)).1, r1.2.2.2.1]
    dsimp only
    have b1 := hb1.1 (2 * y + 1)
    refine w_X3_lower (b := ((2 * y + 1 : Nat) : Int)) h1 ⟨by omega, by omega⟩ hk (Or.inr ⟨by omega, by omega, by omega⟩) s1 hb1 hw1 r1.2.2.2.2 hru (fun z2 s2 f2 => ⟨i2 _ (by omega), ib, ?_⟩)
    have v2 : rCl t1 = 0 → (-10000 ≤ (rE t1 (2 * y + 1) + d) ∧ (rE t1 (2 * y + 1) + d) ≤ 10000) ∨ ((2 * x + 1) % 2 = 1 ∧ 3000 ≤ (rE t1 (2 * y + 1) + d)) ∨ ((2 * x + 1) % 2 = 0 ∧ (rE t1 (2 * y + 1) + d) ≤ 0) := fun q => by have := hb1.2.1 q (2 * y + 1); omega
    have hb2 := nar_RB' (ru := ru) (b := ((2 * y + 1 : Nat) : Int)) hb1 v2
    have hw2 : WhOk (nar ru (2 * x + 1) (rE t1 (2 * y + 1) + d) ((2 * y + 1 : Nat) : Int) t1) := nar_wh (by omega) hw1
    have r2 := r1.to f2.2
    generalize g2 : nar ru (2 * x + 1) (rE t1 (2 * y + 1) + d) ((2 * y + 1 : Nat) : Int) t1 = t2 at *
    rw [(s2.1 (2 * x) (by omega)).1, r2.2.2.2.1]
    dsimp only
    have b2 := hb2.1 (2 * x)
    refine w_X3_raise (b := ((2 * x : Nat) : Int)) (show y < 120 by omega) ⟨by omega, by omega⟩ hk (Or.inr ⟨by omega, by omega, by omega⟩) s2 hb2 hw2 r2.2.2.2.2 hru (fun z3 s3 f3 => ⟨i2 _ (by omega), ib, ?_⟩)
    have v3 : rCl t2 = 0 → (-10000 ≤ (rE t2 (2 * x) - d) ∧ (rE t2 (2 * x) - d) ≤ 10000) ∨ ((2 * y) % 2 = 1 ∧ 3000 ≤ (rE t2 (2 * x) - d)) ∨ ((2 * y) % 2 = 0 ∧ (rE t2 (2 * x) - d) ≤ 0) := fun q => by have := hb2.2.1 q (2 * x); omega
    have hb3 := nar_RB' (ru := ru) (b := ((2 * x : Nat) : Int)) hb2 v3
    have hw3 : WhOk (nar ru (2 * y) (rE t2 (2 * x) - d) ((2 * x : Nat) : Int) t2) := nar_wh (by omega) hw2
    have r3 := r2.to f3.2
    generalize g3 : nar ru (2 * y) (rE t2 (2 * x) - d) ((2 * x : Nat) : Int) t2 = t3 at *
    rw [(s3.1 (2 * x + 1) (by omega)).1, r3.2.2.1]
    dsimp only
    have b3 := hb3.1 (2 * x + 1)
    refine w_X3_lower (b := ((2 * x + 1 : Nat) : Int)) (show y < 120 by omega) ⟨by omega, by omega⟩ hk (Or.inr ⟨by omega, by omega, by omega⟩) s3 hb3 hw3 r3.2.2.2.2 hru (fun z4 s4 f4 => kk z4 ?_ (f1.tr (f2.tr (f3.tr f4))))
    rw [apl_two g1 g2 g3]
    exact s4
  · have hy1 : y = -1 := by omega
    subst hy1
    refine ⟨ib, w_X3_raise (b := -5) h1 ⟨by omega, by omega⟩ hk (Or.inl ⟨rfl, rfl⟩) hs hb hw a8 hru (fun z1 s1 f1 => ⟨ib, ?_⟩)⟩
    have v1 : rCl s = 0 → (-10000 ≤ c ∧ c ≤ 10000) ∨ ((2 * x) % 2 = 1 ∧ 3000 ≤ c) ∨ ((2 * x) % 2 = 0 ∧ c ≤ 0) := fun _ => by omega
    have hb1 := nar_RB' (ru := ru) (b := -5) hb v1
    have r1 := ha.to f1.2
    rw [r1.2.2.2.1]
    dsimp only
    refine w_X3_lower (b := -5) h1 ⟨by omega, by omega⟩ hk (Or.inl ⟨rfl, rfl⟩) s1 hb1 (nar_wh (by omega) hw) r1.2.2.2.2 hru (fun z2 s2 f2 => kk z2 ?_ (f1.tr f2))
    rw [apl_one]
    exact s2
