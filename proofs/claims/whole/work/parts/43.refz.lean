/-! all that the reference works out -/
def rSt0 : RSt := (fun e => if e % 2 = 0 then 0 else 3000, fun _ => -5, fun _ => -5, 0, -5, 1)
theorem rSt0_RB : RB rSt0 := by
  refine ⟨fun e => ?_, fun _ e => ?_, Or.inl rfl, fun _ x => ?_⟩
  · show -10000 ≤ (if e % 2 = 0 then (0 : Int) else 3000) ∧ (if e % 2 = 0 then (0 : Int) else 3000) ≤ 10000
    split <;> constructor <;> decide
  · show 0 ≤ (if e % 2 = 0 then (0 : Int) else 3000) ∧ (if e % 2 = 0 then (0 : Int) else 3000) ≤ 3000
    split <;> constructor <;> decide
  · show (if 2 * x % 2 = 0 then (0 : Int) else 3000) ≤ (if (2 * x + 1) % 2 = 0 then (0 : Int) else 3000)
    rw [if_pos (by omega), if_neg (by omega)]; decide
theorem rSt0_wid : wid rSt0 < 1000000 := by
  have : wdE (rE rSt0) = fun _ => 3000 := by
    funext e
    unfold wdE
    show (if e % 2 = 1 then (if e % 2 = 0 then (0 : Int) else 3000).toNat else (3000 - (if e % 2 = 0 then (0 : Int) else 3000)).toNat) = 3000
    by_cases c : e % 2 = 1
    · rw [if_pos c, if_neg (by omega)]; rfl
    · rw [if_neg c, if_pos (by omega)]; rfl
  unfold wid
  rw [this, sumTo_const]
  decide
def finR (S : Nat → Int) : Nat × RSt := runR (allR S (gOf S) (lv S)) 1000000 0 rSt0
def RefW (z : Hp) (S : Nat → Int) : Prop := ∃ (ab : Nat → Nat) (cl wh : Int), Row z 6 (gOf S) ∧ Row z 7 (moOf S) ∧ Row z 8 (faOf S) ∧ Row z 9 ab ∧ IsAb (sN S) (prOf S) ab ∧ LkIs' (sN S) (fun p => gOf S p = p ∧ sxR S (gOf S) (moOf S) (faOf S) p (sN S) = 3) (fun p => 1 < cntB (moOf S p) 30 ∨ 1 < cntB (faOf S p) 30) (fun p => (ab p).testBit p = true) cl wh ∧ ((cl ≠ 0 ∧ (∀ e, e < 240 → z 10 e = rE rSt0 e ∧ z 11 e = -5 ∧ z 12 e = -5) ∧ z 0 17 = cl ∧ z 0 18 = wh ∧ z 0 19 = 0) ∨ (cl = 0 ∧ RefR z (finR S).2 ∧ z 0 19 = (finR S).1))
