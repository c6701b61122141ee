/-! a round of the reference -/
theorem stR_snoc (S : Nat → Int) (g : Nat → Nat) (l : List Nat) (t : Nat) (s : RSt) : (stR S g (l ++ [t])).foldl apl s = (rls S g t).foldl apl ((stR S g l).foldl apl s) := by
  rw [stR_app, List.foldl_append, stR, stR, List.append_nil]
theorem w_ref_sts {z : Hp} {K : Hp → Prop} {M : Nat} {S : Nat → Int} {s : RSt} (hM : M ≤ 61) (h : SOk M S) (h4 : ∀ t, t < sT S → fS S t = 4 → t < 60) (hS : z 1 = S) (hg6 : Row z 6 (gOf S)) (hs : RefR z s) (hb : RB s) (k : ∀ z' : Hp, RefR z' ((stR S (gOf S) (lv S)).foldl apl s) → RB ((stR S (gOf S) (lv S)).foldl apl s) → RFr2 z z' → K z') : LP1 (fun X21 v22 z23 => rg v22 ∧ rg (z23 1 1) ∧ if (z23 1 1) ≤ v22 then (K z23) else (cal_X10_told v22 5 z23 (fun v24 => jn (fun J25 : Hp → Prop => rg v24 ∧ if v24 = 1 then (cal_X10_applies v22 z23 (fun z28 => J25 z28)) else (J25 z23)) (fun z26 => lt1 (v22 + 1) (fun v27 => X21 v27 z26))))) 0 z := by
  obtain ⟨hn0, hn⟩ := h.n
  obtain ⟨ht0, ht⟩ := h.t
  have hgg := gOf_good h
  refine LP1_for (sT S) (fun j z' => RefR z' ((stR S (gOf S) (lvK S j)).foldl apl s) ∧ RB ((stR S (gOf S) (lvK S j)).foldl apl s) ∧ RFr2 z z') 0 rfl (by omega) ⟨hs, hb, RFr2.rf⟩ (fun X j z1 hj hI hX => ?_) (fun X z1 hI => ?_)
  · obtain ⟨i1, i2, i3⟩ := hI
    have e1 : z1 1 = S := by rw [i3.2 1 (by decide) (by decide) (by decide) (by decide), hS]
    have e6 : Row z1 6 (gOf S) := hg6.to (i3.2 6 (by decide) (by decide) (by decide) (by decide))
    have ho := h.2.2.2 j hj
    refine w_if2 ⟨by omega, by omega⟩ (by rw [e1]; constructor <;> omega) (fun e => absurd e (by rw [e1]; omega)) (fun _ => ?_)
    refine w_X10_told (w := 5) (by omega) ?_
    rw [e1]
    have r5 := ho.rgs.2
    refine jn_i (fun J => ∀ z' : Hp, RefR z' ((stR S (gOf S) (lvK S (j + 1))).foldl apl s) → RB ((stR S (gOf S) (lvK S (j + 1))).foldl apl s) → RFr2 z z' → J z') (fun z2 q1 q2 q3 => lt_i (hX z2 ⟨q1, q2, q3⟩)) (fun J hJ => ⟨r5, w_ite (fun q => ?_) (fun q => ?_)⟩)
    · have q : fV S j = 1 := q
      rw [lvK_succ, if_pos (show isLv S j = true from decide_eq_true q), stR_snoc] at hJ
      exact w_X10_applies hn (by omega) e1 e6 ho hgg (h4 j hj) i1 i2 (fun z' q1 q2 q3 => hJ z' q1 q2 (i3.tr q3))
    · rw [lvK_succ, if_neg (show ¬ isLv S j = true from fun r => q (of_decide_eq_true r)), List.append_nil] at hJ
      exact hJ z1 i1 i2 i3
  · obtain ⟨i1, i2, i3⟩ := hI
    have e1 : z1 1 = S := by rw [i3.2 1 (by decide) (by decide) (by decide) (by decide), hS]
    exact w_if2 ⟨by omega, by omega⟩ (by rw [e1]; constructor <;> omega) (fun _ => k z1 i1 i2 i3) (fun e => absurd e (by rw [e1]; omega))
theorem w_ref_life {z : Hp} {K : Hp → Prop} {M : Nat} {S : Nat → Int} {s : RSt} (h : SOk M S) (hS : z 1 = S) (hg6 : Row z 6 (gOf S)) (hs : RefR z s) (hb : RB s) (k : ∀ z' : Hp, RefR z' ((lifeR (gOf S) (sN S)).foldl apl s) → RB ((lifeR (gOf S) (sN S)).foldl apl s) → RFr2 z z' → K z') : LP1 (fun X17 v18 z19 => rg v18 ∧ rg (z19 1 0) ∧ if (z19 1 0) ≤ v18 then (K z19) else (hp1 (kup z19 0 20 (100 + v18)) (fun z29 => cal_X10_isOne v18 z29 (fun v30 => jn (fun J31 : Hp → Prop => rg v30 ∧ if v30 = 0 then (J31 z29) else (cal_X10_bornOf v18 z29 (fun v34 => cal_X10_bornOf v18 z29 (fun v35 => cal_X10_differ (v34 + 1) v35 0 110 z29 (fun z36 => J31 z36))))) (fun z32 => lt1 (v18 + 1) (fun v33 => X17 v33 z32)))))) 0 z := by
  obtain ⟨hn0, hn⟩ := h.n
  have hgg := gOf_good h
  refine LP1_for (sN S) (fun j z' => RefR z' ((lifeR (gOf S) j).foldl apl s) ∧ RB ((lifeR (gOf S) j).foldl apl s) ∧ RFr2 z z') 0 rfl (by omega) ⟨hs, hb, RFr2.rf⟩ (fun X j z1 hj hI hX => ?_) (fun X z1 hI => ?_)
  · obtain ⟨i1, i2, i3⟩ := hI
    have e1 : z1 1 = S := by rw [i3.2 1 (by decide) (by decide) (by decide) (by decide), hS]
    have e6 : Row z1 6 (gOf S) := hg6.to (i3.2 6 (by decide) (by decide) (by decide) (by decide))
    have gl := hgg.1 j
    refine w_if2 ⟨by omega, by omega⟩ (by rw [e1]; constructor <;> omega) (fun e => absurd e (by rw [e1]; omega)) (fun _ => hp_i ?_)
    have f20 : RFr2 z1 (kup z1 0 20 (100 + (j : Int))) := ⟨fun i _ _ c _ => kup_n (fun q => c q.2), fun c c0 _ _ _ => by funext q; exact kup_c c0⟩
    have s20 : RefR (kup z1 0 20 (100 + (j : Int))) ((lifeR (gOf S) j).foldl apl s) := i1.at20
    have r20 : kup z1 0 20 (100 + (j : Int)) 0 20 = 100 + (j : Int) := kup_eq
    have g20 : Row (kup z1 0 20 (100 + (j : Int))) 6 (gOf S) := e6.off (by decide)
    generalize kup z1 0 20 (100 + (j : Int)) = z2 at *
    have hJ0 : ∀ z' : Hp, RefR z' ((lifeR (gOf S) (j + 1)).foldl apl s) → RB ((lifeR (gOf S) (j + 1)).foldl apl s) → RFr2 z z' → X (↑j + 1) z' := fun z' q1 q2 q3 => hX z' ⟨q1, q2, q3⟩
    rw [lifeR, List.foldl_append] at hJ0
    have vj := g20 j (by omega)
    refine w_X10_isOne (by omega) (by rw [vj]; constructor <;> omega) (fun q => ?_) (fun q => ?_)
    · rw [if_pos (by omega), List.foldl_cons, List.foldl_nil] at hJ0
      refine w_t rg1 (w_born (w_born ?_))
      have hb' := apl_RB i2 (lifeR_ok (g := gOf S) (j + 1) (by omega) (2 * j + 1, ((2 * j : Nat) : Int), 0, 110, 100 + (j : Int)) (by rw [lifeR, if_pos (by omega)]; simp))
      exact w_differ' (ru := 100 + (j : Int)) (2 * j + 1) (2 * j) (by omega) (by omega) (by omega) (by omega) ⟨by omega, by omega⟩ ⟨by omega, by omega⟩ s20 i2 r20 (fun z' q1 q2 => lt_i (hJ0 z' q1 hb' (i3.tr (f20.tr q2.two))))
    · rw [if_neg (by omega), List.foldl_nil] at hJ0
      exact w_f rg0 (lt_i (hJ0 z2 s20 i2 (i3.tr f20)))
  · obtain ⟨i1, i2, i3⟩ := hI
    have e1 : z1 1 = S := by rw [i3.2 1 (by decide) (by decide) (by decide) (by decide), hS]
    exact w_if2 ⟨by omega, by omega⟩ (by rw [e1]; constructor <;> omega) (fun _ => k z1 i1 i2 i3) (fun e => absurd e (by rw [e1]; omega))
