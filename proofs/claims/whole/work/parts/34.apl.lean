/-- a rule, or part of one: x less y is from c to d (y below 0: x itself is); its number -/
abbrev Rl : Type := Nat × Int × Int × Int × Int
def apl (s : RSt) (r : Rl) : RSt :=
  if r.2.1 < 0 then nar r.2.2.2.2 (2 * r.1 + 1) r.2.2.2.1 (-5) (nar r.2.2.2.2 (2 * r.1) r.2.2.1 (-5) s)
  else
    let y := r.2.1.toNat
    let s1 := nar r.2.2.2.2 (2 * r.1) (rE s (2 * y) + r.2.2.1) ((2 * y : Nat) : Int) s
    let s2 := nar r.2.2.2.2 (2 * r.1 + 1) (rE s1 (2 * y + 1) + r.2.2.2.1) ((2 * y + 1 : Nat) : Int) s1
    let s3 := nar r.2.2.2.2 (2 * y) (rE s2 (2 * r.1) - r.2.2.2.1) ((2 * r.1 : Nat) : Int) s2
    nar r.2.2.2.2 (2 * y + 1) (rE s3 (2 * r.1 + 1) - r.2.2.1) ((2 * r.1 + 1 : Nat) : Int) s3
theorem nar_cl {ru : Int} {e : Nat} {v b : Int} {s : RSt} (h : rCl s ≠ 0) : nar ru e v b s = s := by unfold nar; rw [if_pos h]
/-- too far off to narrow anything -/
theorem nar_up {ru : Int} {e : Nat} {v b : Int} {s : RSt} (h : RB s) (o : e % 2 = 1) (hv : rCl s = 0 → 3000 ≤ v) : nar ru e v b s = s := by
  by_cases c : rCl s = 0
  · unfold nar
    rw [if_neg (fun q => q c), if_pos (Or.inl ⟨o, by have := (h.2.1 c e).2; have := hv c; omega⟩)]
  · exact nar_cl c
theorem nar_dn {ru : Int} {e : Nat} {v b : Int} {s : RSt} (h : RB s) (o : e % 2 = 0) (hv : rCl s = 0 → v ≤ 0) : nar ru e v b s = s := by
  by_cases c : rCl s = 0
  · unfold nar
    rw [if_neg (fun q => q c), if_pos (Or.inr ⟨o, by have := (h.2.1 c e).1; have := hv c; omega⟩)]
  · exact nar_cl c
/-- a rule whose numbers are as they may be -/
def RlOk (r : Rl) : Prop := r.1 < 120 ∧ r.2.1 < 120 ∧ ((-100000 = r.2.2.1 ∧ r.2.1 < 0) ∨ (-5 ≤ r.2.2.1 ∧ r.2.2.1 ≤ 3000)) ∧ (r.2.2.2.1 = 100000 ∨ (-5 ≤ r.2.2.2.1 ∧ r.2.2.2.1 ≤ 3000))
theorem nar_RB' {ru : Int} {e : Nat} {v b : Int} {s : RSt} (h : RB s) (hv : rCl s = 0 → (-10000 ≤ v ∧ v ≤ 10000) ∨ (e % 2 = 1 ∧ 3000 ≤ v) ∨ (e % 2 = 0 ∧ v ≤ 0)) : RB (nar ru e v b s) := by
  by_cases c : rCl s = 0
  · rcases hv c with q | ⟨o, q⟩ | ⟨o, q⟩
    · exact nar_RB h (fun _ => q)
    · rw [nar_up h o (fun _ => q)]; exact h
    · rw [nar_dn h o (fun _ => q)]; exact h
  · rw [nar_cl c]; exact h
theorem apl_RB {s : RSt} {r : Rl} (h : RB s) (hr : RlOk r) : RB (apl s r) := by
  obtain ⟨x, y, c, d, ru⟩ := r
  obtain ⟨h1, h2, h3, h4⟩ := hr
  simp only at h1 h2 h3 h4
  unfold apl
  by_cases hy : y < 0
  · simp only [if_pos hy]
    refine nar_RB' (nar_RB' h (fun q => ?_)) (fun q => ?_)
    · omega
    · omega
  · simp only [if_neg hy]
    generalize y.toNat = y'
    have a1 : RB (nar ru (2 * x) (rE s (2 * y') + c) ((2 * y' : Nat) : Int) s) := nar_RB' h (fun q => by have := h.2.1 q (2 * y'); omega)
    generalize nar ru (2 * x) (rE s (2 * y') + c) ((2 * y' : Nat) : Int) s = s1 at *
    have a2 : RB (nar ru (2 * x + 1) (rE s1 (2 * y' + 1) + d) ((2 * y' + 1 : Nat) : Int) s1) := nar_RB' a1 (fun q => by have := a1.2.1 q (2 * y' + 1); omega)
    generalize nar ru (2 * x + 1) (rE s1 (2 * y' + 1) + d) ((2 * y' + 1 : Nat) : Int) s1 = s2 at *
    have a3 : RB (nar ru (2 * y') (rE s2 (2 * x) - d) ((2 * x : Nat) : Int) s2) := nar_RB' a2 (fun q => by have := a2.2.1 q (2 * x); omega)
    generalize nar ru (2 * y') (rE s2 (2 * x) - d) ((2 * x : Nat) : Int) s2 = s3 at *
    exact nar_RB' a3 (fun q => by have := a3.2.1 q (2 * x + 1); omega)
theorem apl_two {x y : Nat} {c d ru : Int} {s s1 s2 s3 : RSt} (e1 : nar ru (2 * x) (rE s (2 * y) + c) ((2 * y : Nat) : Int) s = s1) (e2 : nar ru (2 * x + 1) (rE s1 (2 * y + 1) + d) ((2 * y + 1 : Nat) : Int) s1 = s2) (e3 : nar ru (2 * y) (rE s2 (2 * x) - d) ((2 * x : Nat) : Int) s2 = s3) : apl s (x, (y : Int), c, d, ru) = nar ru (2 * y + 1) (rE s3 (2 * x + 1) - c) ((2 * x + 1 : Nat) : Int) s3 := by
  subst e1 e2 e3
  unfold apl
  rw [if_neg (show ¬ ((y : Nat) : Int) < 0 by omega)]
  simp only [Int.toNat_natCast]
theorem apl_one {x : Nat} {c d ru : Int} {s : RSt} : apl s (x, -1, c, d, ru) = nar ru (2 * x + 1) d (-5) (nar ru (2 * x) c (-5) s) := by
  unfold apl
  rw [if_pos (show (-1 : Int) < 0 by decide)]
theorem w_X10_isWithin {z : Hp} {K : Hp → Prop} {x : Nat} {c d ru : Int} {s : RSt} (hx : x < 120) (hc : -10000 ≤ c ∧ c ≤ 10000) (hd : -10000 ≤ d ∧ d ≤ 10000) (hs : RefR z s) (hb : RB s) (hru : z 0 20 = ru) (k : ∀ z' : Hp, RefR z' (apl s (x, -1, c, d, ru)) → RFr z z' → K z') : cal_X10_isWithin x c d z K := by
  unfold cal_X10_isWithin
  have e1 : (2 * (x : Int)) = ((2 * x : Nat) : Int) := by omega
  have e2 : (2 * (x : Int) + 1) = ((2 * x + 1 : Nat) : Int) := by omega
  rw [e2, e1]
  refine w_X10_narrows (ru := ru) (by omega) ⟨by omega, by omega⟩ hs hb hru (fun z1 hs1 hf1 => ?_)
  refine w_X10_narrows (ru := ru) (by omega) ⟨by omega, by omega⟩ hs1 (nar_RB hb (fun _ => hc)) (by rw [hf1.1 20 (by decide) (by decide) (by decide)]; exact hru) (fun z2 hs2 hf2 => k z2 ?_ (hf1.tr hf2))
  rw [apl_one]
  exact hs2
theorem w_X10_differ {z : Hp} {K : Hp → Prop} {x y : Nat} {c d ru : Int} {s : RSt} (hx : x < 120) (hy : y < 120) (hc : -5 ≤ c ∧ c ≤ 3000) (hd : 0 ≤ d ∧ d ≤ 3001) (hs : RefR z s) (hb : RB s) (hru : z 0 20 = ru) (k : ∀ z' : Hp, RefR z' (apl s (x, y, c, (if d = 3001 then 100000 else d), ru)) → RFr z z' → K z') : cal_X10_differ x y c d z K := by
  unfold cal_X10_differ
  have e1 : ∀ x : Nat, (2 * (x : Int)) = ((2 * x : Nat) : Int) := fun x => by omega
  have e2 : ∀ x : Nat, (((2 * x : Nat) : Int) + 1) = ((2 * x + 1 : Nat) : Int) := fun x => by omega
  rw [e1 x, e1 y, e2 x, e2 y]
  have hlo : ∀ (s : RSt), RB s → ∀ e, -10000 ≤ rE s e ∧ rE s e ≤ 10000 := fun s h e => h.1 e
  refine jn_i (fun J => ∀ v : Int, ((d = 3001 ∧ v = 1) ∨ (d ≠ 3001 ∧ v = 0)) → J v) (fun v hv => ?_) (fun J hJ => ⟨⟨by omega, by omega⟩, w_ite (fun e => lt_i (hJ 1 (Or.inl ⟨e, rfl⟩))) (fun e => lt_i (hJ 0 (Or.inr ⟨e, rfl⟩)))⟩)
  have ib : ∀ e : Nat, e < 240 → inb (e : Int) 240 := fun e he => ⟨by omega, by omega⟩
  refine ⟨ib _ (by omega), ?_⟩
  rw [Int.toNat_natCast, (hs.1 (2 * y) (by omega)).1]
  have b0 := hb.1 (2 * y)
  refine w_X10_narrows (ru := ru) (by omega) ⟨by omega, by omega⟩ hs hb hru (fun z1 hs1 hf1 => ?_)
  have hb1 : RB (nar ru (2 * x) (rE s (2 * y) + c) ((2 * y : Nat) : Int) s) := nar_RB' hb (fun q => by have := hb.2.1 q (2 * y); omega)
  generalize g1 : nar ru (2 * x) (rE s (2 * y) + c) ((2 * y : Nat) : Int) s = s1 at *
  have hru1 : z1 0 20 = ru := by rw [hf1.1 20 (by decide) (by decide) (by decide)]; exact hru
  have b1 := hb1.1 (2 * y + 1)
  refine jn_i (fun J => ∀ z' : Hp, RefR z' (nar ru (2 * x + 1) (rE s1 (2 * y + 1) + (if d = 3001 then 100000 else d)) ((2 * y + 1 : Nat) : Int) s1) → RFr z z' → J z') (fun z2 hs2 hf2 => ?_) (fun J hJ => ?_)
  rotate_left
  · rcases hv with ⟨hd1, rfl⟩ | ⟨hd1, rfl⟩
    · refine w_t rg1 (hJ z1 ?_ hf1)
      rw [if_pos hd1, nar_up hb1 (by omega) (fun q => by have := hb1.2.1 q (2 * y + 1); omega)]
      exact hs1
    · refine w_f rg0 ⟨ib _ (by omega), ?_⟩
      rw [Int.toNat_natCast, (hs1.1 (2 * y + 1) (by omega)).1]
      rw [if_neg hd1] at hJ
      exact w_X10_narrows (ru := ru) (by omega) ⟨by omega, by omega⟩ hs1 hb1 hru1 (fun z2 hs2 hf2 => hJ z2 hs2 (hf1.tr hf2))
  have hb2 : RB (nar ru (2 * x + 1) (rE s1 (2 * y + 1) + (if d = 3001 then 100000 else d)) ((2 * y + 1 : Nat) : Int) s1) := nar_RB' hb1 (fun q => by have := hb1.2.1 q (2 * y + 1); split <;> omega)
  generalize g2 : nar ru (2 * x + 1) (rE s1 (2 * y + 1) + (if d = 3001 then 100000 else d)) ((2 * y + 1 : Nat) : Int) s1 = s2 at *
  have hru2 : z2 0 20 = ru := by rw [hf2.1 20 (by decide) (by decide) (by decide)]; exact hru
  have b2 := hb2.1 (2 * x)
  refine jn_i (fun J => ∀ z' : Hp, RefR z' (nar ru (2 * y) (rE s2 (2 * x) - (if d = 3001 then 100000 else d)) ((2 * x : Nat) : Int) s2) → RFr z z' → J z') (fun z3 hs3 hf3 => ?_) (fun J hJ => ?_)
  rotate_left
  · rcases hv with ⟨hd1, rfl⟩ | ⟨hd1, rfl⟩
    · refine w_t rg1 (hJ z2 ?_ hf2)
      rw [if_pos hd1, nar_dn hb2 (by omega) (fun q => by have := hb2.2.1 q (2 * x); omega)]
      exact hs2
    · refine w_f rg0 ⟨ib _ (by omega), ?_⟩
      rw [Int.toNat_natCast, (hs2.1 (2 * x) (by omega)).1]
      rw [if_neg hd1] at hJ
      exact w_X10_narrows (ru := ru) (by omega) ⟨by omega, by omega⟩ hs2 hb2 hru2 (fun z3 hs3 hf3 => hJ z3 hs3 (hf2.tr hf3))
  have hb3 : RB (nar ru (2 * y) (rE s2 (2 * x) - (if d = 3001 then 100000 else d)) ((2 * x : Nat) : Int) s2) := nar_RB' hb2 (fun q => by have := hb2.2.1 q (2 * x); split <;> omega)
  generalize g3 : nar ru (2 * y) (rE s2 (2 * x) - (if d = 3001 then 100000 else d)) ((2 * x : Nat) : Int) s2 = s3 at *
  have hru3 : z3 0 20 = ru := by rw [hf3.1 20 (by decide) (by decide) (by decide)]; exact hru
  have b3 := hb3.1 (2 * x + 1)
  refine ⟨ib _ (by omega), ?_⟩
  rw [Int.toNat_natCast, (hs3.1 (2 * x + 1) (by omega)).1]
  refine w_X10_narrows (ru := ru) (by omega) ⟨by omega, by omega⟩ hs3 hb3 hru3 (fun z4 hs4 hf4 => k z4 ?_ (hf3.tr hf4))
  rw [apl_two g1 g2 g3]
  exact hs4
