/-! at the start; and all of it -/
theorem inv_start : cal_X10_works zM0 (Inv zC0) := by
  have z1 : zM0 1 = fun _ => 0 := by funext j; exact if_neg (fun q => absurd q.1 (by decide))
  have c0 : ∀ c j, c ≠ 142 → zC0 c j = 0 := fun c j h => if_neg (fun q => h q.1)
  have m0 : ∀ c j, c ≠ 18 → zM0 c j = 0 := fun c j h => if_neg (fun q => h q.1)
  have t0 : sT (fun _ => (0 : Int)) = 0 := rfl
  have n0 : sN (fun _ => (0 : Int)) = 0 := rfl
  have ok : SOk 60 (fun _ => (0 : Int)) := ⟨by decide, by decide, fun p hp => absurd hp (Nat.not_lt_zero _), fun t ht => absurd ht (Nat.not_lt_zero _)⟩
  refine w_X10_works (M := 60) (by omega) z1 ok (fun t ht => absurd ht (Nat.not_lt_zero _)) (fun z' hR f0 fc => ?_)
  have e1 : z' 1 = fun _ => 0 := by rw [fc 1 (by decide) (by omega)]; exact z1
  have e0 : ∀ j, j ≠ 17 → j ≠ 18 → j ≠ 19 → j ≠ 20 → j ≠ 21 → z' 0 j = 0 := fun j a b c d e => by rw [f0 j a b c d e]; exact m0 0 j (by decide)
  have e18 : z' 18 = zM0 18 := fc 18 (by decide) (by omega)
  unfold Inv
  rw [e1]
  refine ⟨ok, ⟨c0 1 0 (by decide), c0 1 1 (by decide), fun t ht => absurd ht (Nat.not_lt_zero _), fun t ht => absurd ht (Nat.not_lt_zero _), fun p hp => absurd hp (Nat.not_lt_zero _), fun p hp i _ => ?_⟩, Or.inl ⟨c0 0 2 (by decide), e0 2 (by decide) (by decide) (by decide) (by decide) (by decide)⟩, ⟨0, by omega, e0 6 (by decide) (by decide) (by decide) (by decide) (by decide), c0 81 1 (by decide), fun i hi => absurd hi (Nat.not_lt_zero _)⟩, ⟨0, by omega, e0 7 (by decide) (by decide) (by decide) (by decide) (by decide), c0 83 1 (by decide), fun i hi => absurd hi (Nat.not_lt_zero _)⟩, fun l hl => ?_, hR, Or.inl ⟨c0 0 8 (by decide), c0 0 11 (by decide)⟩⟩
  · rw [c0 _ i (by omega)]; exact ⟨by decide, by decide⟩
  · have a : zC0 142 l = -1 := if_pos ⟨rfl, hl⟩
    have b : zM0 18 l = -1 := if_pos ⟨rfl, hl⟩
    rw [e18, a, b]
    exact ⟨rfl, by decide, by decide, fun i hi => absurd hi (by omega)⟩
theorem pure_all : ∃ Inv : Hp → Hp → Prop, Ops Inv ∧ cal_X10_works zM0 (Inv zC0) :=
  ⟨Inv, ⟨inv_op0, inv_op1, inv_op2, inv_op3, inv_op4, inv_op5, inv_op6, inv_op7, inv_op8, inv_op9, inv_op10, inv_op11, inv_op12, inv_op13, inv_op14, inv_op15, inv_op16, inv_op17, inv_op18, inv_op19, inv_op20, inv_op21, inv_op22, inv_op23, inv_op24, inv_op25, inv_op26, inv_op27, inv_op28, inv_op29, inv_op30, inv_op31, inv_op32, inv_op33, inv_op34, inv_op35, inv_op36, inv_op37, inv_op38, inv_op39, inv_op40⟩, inv_start⟩
