/-! the reference's rounds -/
def C01 (s : RSt) : Prop := rCh s = 0 ∨ rCh s = 1
theorem nar_ch {ru : Int} {e : Nat} {v b : Int} {s : RSt} (h : C01 s) : C01 (nar ru e v b s) := by
  unfold nar
  split
  · exact h
  · split
    · exact h
    · exact Or.inr rfl
theorem apl_ch {s : RSt} {r : Rl} (h : C01 s) : C01 (apl s r) := by
  unfold apl
  split
  · exact nar_ch (nar_ch h)
  · exact nar_ch (nar_ch (nar_ch (nar_ch h)))
theorem rnd_ch {l : List Rl} {s : RSt} : C01 (rnd l s) := foldl_inv l (quiet s) (Or.inl rfl) (fun _ _ _ h => apl_ch h)
theorem RefR.up21 {z : Hp} {s : RSt} {k : Int} (h : RefR z s) : RefR (kup (kup z 0 21 0) 0 19 k) (quiet s) := ⟨fun e he => by rw [kup_c (by decide), kup_c (by decide), kup_c (by decide), kup_c (by decide), kup_c (by decide), kup_c (by decide)]; exact h.1 e he, by rw [kup_n (by decide), kup_n (by decide)]; exact h.2.1, by rw [kup_n (by decide), kup_n (by decide)]; exact h.2.2.1, by rw [kup_n (by decide), kup_eq]; rfl⟩
def RFr3 (z z' : Hp) : Prop := (∀ j, j ≠ 17 → j ≠ 18 → j ≠ 19 → j ≠ 20 → j ≠ 21 → z' 0 j = z 0 j) ∧ ∀ c, c ≠ 0 → c ≠ 10 → c ≠ 11 → c ≠ 12 → z' c = z c
theorem w_ref_rounds {z : Hp} {K : Hp → Prop} {M F : Nat} {S : Nat → Int} {s : RSt} (hM : M ≤ 61) (h : SOk M S) (h4 : ∀ t, t < sT S → fS S t = 4 → t < 60) (hS : z 1 = S) (hg6 : Row z 6 (gOf S)) (hs : RefR z s) (hb : RB s) (hcl : rCl s = 0) (hch : rCh s = 1) (h19 : z 0 19 = 0) (hF : wid s < F) (k : ∀ z' : Hp, RefR z' (runR (allR S (gOf S) (lv S)) F 0 s).2 → RB (runR (allR S (gOf S) (lv S)) F 0 s).2 → z' 0 19 = (runR (allR S (gOf S) (lv S)) F 0 s).1 → RFr3 z z' → K z') : LP0 (fun X12 z13 => rg (z13 0 21) ∧ if (z13 0 21) = 0 then (K z13) else (rg (z13 0 17) ∧ if (z13 0 17) = 0 then (hp1 (kup z13 0 21 0) (fun z14 => hp1 (kup z14 0 19 ((z14 0 19) + 1)) (fun z15 => lt1 0 (fun v16 => LP1 (fun X17 v18 z19 => rg v18 ∧ rg (z19 1 0) ∧ if (z19 1 0) ≤ v18 then (lt1 0 (fun v20 => LP1 (fun X21 v22 z23 => rg v22 ∧ rg (z23 1 1) ∧ if (z23 1 1) ≤ v22 then (X12 z23) else (cal_X10_told v22 5 z23 (fun v24 => jn (fun J25 : Hp → Prop => rg v24 ∧ if v24 = 1 then (cal_X10_applies v22 z23 (fun z28 => J25 z28)) else (J25 z23)) (fun z26 => lt1 (v22 + 1) (fun v27 => X21 v27 z26))))) v20 z19)) else (hp1 (kup z19 0 20 (100 + v18)) (fun z29 => cal_X10_isOne v18 z29 (fun v30 => jn (fun J31 : Hp → Prop => rg v30 ∧ if v30 = 0 then (J31 z29) else (cal_X10_bornOf v18 z29 (fun v34 => cal_X10_bornOf v18 z29 (fun v35 => cal_X10_differ (v34 + 1) v35 0 110 z29 (fun z36 => J31 z36))))) (fun z32 => lt1 (v18 + 1) (fun v33 => X17 v33 z32)))))) v16 z15)))) else (K z13))) z := by
  have hgg := gOf_good h
  have hok : ∀ r ∈ allR S (gOf S) (lv S), RlOk r := fun r hr => by
    rcases List.mem_append.mp hr with q | q
    · exact lifeR_ok _ h.n.2 r q
    · exact stR_ok h.n.2 hgg _ (fun t ht => ⟨lv_ok h (Nat.le_refl _) t ht, h4 t (lvK_lt ht).1⟩) r q
  generalize hL : allR S (gOf S) (lv S) = L at *
  refine LP0_ind (fun n z' => ∃ (s' : RSt) (c f : Nat), RefR z' s' ∧ RB s' ∧ z' 0 19 = (c : Int) ∧ RFr3 z z' ∧ C01 s' ∧ ((rCl s' = 0 ∧ rCh s' = 1 ∧ n = wid s' + 1 ∧ wid s' < f ∧ runR L f c s' = runR L F 0 s) ∨ ((rCl s' ≠ 0 ∨ rCh s' = 0) ∧ (c, s') = runR L F 0 s ∧ n = 0))) (fun X n z1 hI hX => ?_) (n := wid s + 1) ⟨s, 0, F, hs, hb, h19, ⟨fun _ _ _ _ _ _ => rfl, fun _ _ _ _ _ => rfl⟩, Or.inr hch, Or.inl ⟨hcl, hch, rfl, hF, rfl⟩⟩
  obtain ⟨s', c, f, i1, i2, i3, i4, i5, i6⟩ := hI
  have rch : rg (z1 0 21) := by rw [i1.2.2.2]; rcases i5 with q | q <;> rw [q] <;> constructor <;> omega
  have rcl : rg (z1 0 17) := by rw [i1.2.1]; rcases i2.2.2.1 with q | q <;> rw [q] <;> constructor <;> omega
  have fin : (c, s') = runR L F 0 s → K z1 := fun q => k z1 (by rw [← q]; exact i1) (by rw [← q]; exact i2) (by rw [← q]; exact i3) i4
  rcases i6 with ⟨a1, a2, a3, a4, a5⟩ | ⟨a1, a2, a3⟩
  · refine w_if rch (fun e => absurd e (by rw [i1.2.2.2, a2]; decide)) (fun _ => w_if rcl (fun _ => hp_i (hp_i (lt_i ?_))) (fun e => absurd (by rw [i1.2.1]; exact a1) e))
    have e1 : (kup (kup z1 0 21 0) 0 19 (kup z1 0 21 0 0 19 + 1)) 1 = S := by rw [← hS, ← i4.2 1 (by decide) (by decide) (by decide) (by decide)]; funext q; rw [kup_c (by decide), kup_c (by decide)]
    have e6 : Row (kup (kup z1 0 21 0) 0 19 (kup z1 0 21 0 0 19 + 1)) 6 (gOf S) := ((hg6.to (i4.2 6 (by decide) (by decide) (by decide) (by decide))).off (by decide)).off (by decide)
    have f0 : ∀ j, j ≠ 19 → j ≠ 21 → (kup (kup z1 0 21 0) 0 19 (kup z1 0 21 0 0 19 + 1)) 0 j = z1 0 j := fun j x y => by rw [kup_n (fun q => x q.2), kup_n (fun q => y q.2)]
    have f1 : ∀ c, c ≠ 0 → (kup (kup z1 0 21 0) 0 19 (kup z1 0 21 0 0 19 + 1)) c = z1 c := fun c x => by funext q; rw [kup_c x, kup_c x]
    have g19 : (kup (kup z1 0 21 0) 0 19 (kup z1 0 21 0 0 19 + 1)) 0 19 = ((c + 1 : Nat) : Int) := by rw [kup_eq, kup_n (by decide), i3]; omega
    refine w_ref_life h e1 e6 i1.up21 (quiet_RB i2) (fun z2 q1 q2 q3 => lt_i ?_)
    refine w_ref_sts hM h h4 (by rw [q3.2 1 (by decide) (by decide) (by decide) (by decide)]; exact e1) (e6.to (q3.2 6 (by decide) (by decide) (by decide) (by decide))) q1 q2 (fun z3 p1 p2 p3 => ?_)
    have p4 := q3.tr p3
    have er : (stR S (gOf S) (lv S)).foldl apl ((lifeR (gOf S) (sN S)).foldl apl (quiet s')) = rnd L s' := by rw [← hL]; unfold rnd allR; rw [List.foldl_append]
    rw [er] at p1 p2
    have p19 : z3 0 19 = ((c + 1 : Nat) : Int) := by rw [p4.1 19 (by decide) (by decide) (by decide) (by decide)]; exact g19
    have pf : RFr3 z z3 := ⟨fun j x1 x2 x3 x4 x5 => by rw [p4.1 j x1 x2 x4 x5, f0 j x3 x5, i4.1 j x1 x2 x3 x4 x5], fun c x1 x2 x3 x4 => by rw [p4.2 c x1 x2 x3 x4, f1 c x1, i4.2 c x1 x2 x3 x4]⟩
    obtain ⟨f, rfl⟩ : ∃ f', f = f' + 1 := ⟨f - 1, by omega⟩
    rw [runR] at a5
    by_cases d : rCl (rnd L s') ≠ 0 ∨ rCh (rnd L s') = 0
    · rw [if_pos d] at a5
      exact hX 0 z3 (by omega) ⟨_, _, 0, p1, p2, p19, pf, rnd_ch, Or.inr ⟨d, a5, rfl⟩⟩
    · rw [if_neg d] at a5
      have d1 : rCl (rnd L s') = 0 := Decidable.byContradiction fun q => d (Or.inl q)
      have d2 : rCh (rnd L s') ≠ 0 := fun q => d (Or.inr q)
      have lt := rnd_dec i2 hok d1 d2
      exact hX _ z3 (by omega) ⟨_, _, f, p1, p2, p19, pf, rnd_ch, Or.inl ⟨d1, rnd_ch.resolve_left d2, rfl, by omega, a5⟩⟩
  · refine w_if rch (fun _ => fin a2) (fun e => w_if rcl (fun e' => ?_) (fun _ => fin a2))
    rcases a1 with q | q
    · exact absurd (by rw [← i1.2.1]; exact e') q
    · exact absurd (by rw [i1.2.2.2]; exact q) e
