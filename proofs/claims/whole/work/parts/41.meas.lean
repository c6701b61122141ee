/-! rounds end: widths fall -/
def wdE (E : Nat → Int) (e : Nat) : Nat := if e % 2 = 1 then (E e).toNat else (3000 - E e).toNat
def wid (s : RSt) : Nat := sumTo (wdE (rE s)) 240
def Dec (s s' : RSt) : Prop := rCl s' ≠ 0 ∨ s' = s ∨ wid s' < wid s
theorem nar_dec {ru : Int} {e : Nat} {v b : Int} {s : RSt} (h : RB s) (he : e < 240) (hv : rCl s = 0 → (-10000 ≤ v ∧ v ≤ 10000) ∨ (e % 2 = 1 ∧ 3000 ≤ v) ∨ (e % 2 = 0 ∧ v ≤ 0)) : Dec s (nar ru e v b s) := by
  have hB := nar_RB' (ru := ru) (b := b) h hv
  by_cases c : rCl s = 0
  · by_cases c1 : (e % 2 = 1 ∧ rE s e ≤ v) ∨ (e % 2 = 0 ∧ v ≤ rE s e)
    · refine Or.inr (Or.inl ?_)
      unfold nar
      rw [if_neg (fun q => q c), if_pos c1]
    · by_cases c2 : rCl (nar ru e v b s) = 0
      · refine Or.inr (Or.inr ?_)
        have hE : rE (nar ru e v b s) = fup (rE s) e v := by
          unfold nar
          rw [if_neg (fun q => q c), if_neg c1]
          rfl
        have h0 := hB.2.1 c2 e
        have h1 := h.2.1 c e
        rw [hE, fup_eq] at h0
        unfold wid
        rw [hE]
        refine sumTo_lt 240 (fun i hi => ?_) ⟨e, he, ?_⟩
        · unfold wdE
          by_cases g : i = e
          · subst g; rw [fup_eq]; split <;> omega
          · rw [fup_ne g]; exact Nat.le_refl _
        · unfold wdE
          rw [fup_eq]; split <;> omega
      · exact Or.inl c2
  · exact Or.inl (by rw [nar_cl c]; exact c)
theorem Dec.tr {s s' s'' : RSt} (h : Dec s s') (h' : Dec s' s'') (hc : rCl s' ≠ 0 → s'' = s') : Dec s s'' := by
  rcases h with h | h | h
  · rw [hc h]; exact Or.inl h
  · rw [h] at h'; exact h'
  · rcases h' with h' | h' | h'
    · exact Or.inl h'
    · rw [h']; exact Or.inr (Or.inr h)
    · exact Or.inr (Or.inr (by omega))
theorem apl_cl {s : RSt} {r : Rl} (h : rCl s ≠ 0) : apl s r = s := by
  obtain ⟨x, y, c, d, ru⟩ := r
  unfold apl
  by_cases hy : y < 0
  · simp only [if_pos hy, nar_cl h]
  · simp only [if_neg hy, nar_cl h]
theorem apl_dec {s : RSt} {r : Rl} (h : RB s) (hr : RlOk r) : Dec s (apl s r) := by
  obtain ⟨x, y, c, d, ru⟩ := r
  obtain ⟨h1, h2, h3, h4⟩ := hr
  dsimp only at h1 h2 h3 h4
  by_cases hy : y < 0
  · have e : apl s (x, y, c, d, ru) = nar ru (2 * x + 1) d (-5) (nar ru (2 * x) c (-5) s) := by
      unfold apl
      rw [if_pos (show (x, y, c, d, ru).2.1 < 0 from hy)]
    rw [e]
    have v1 : rCl s = 0 → (-10000 ≤ c ∧ c ≤ 10000) ∨ ((2 * x) % 2 = 1 ∧ 3000 ≤ c) ∨ ((2 * x) % 2 = 0 ∧ c ≤ 0) := fun _ => by omega
    exact (nar_dec h (by omega) v1).tr (nar_dec (nar_RB' h v1) (by omega) (fun _ => by omega)) (fun q => nar_cl q)
  · obtain ⟨y', rfl⟩ : ∃ y' : Nat, y = y' := ⟨y.toNat, by omega⟩
    generalize g1 : nar ru (2 * x) (rE s (2 * y') + c) ((2 * y' : Nat) : Int) s = s1
    generalize g2 : nar ru (2 * x + 1) (rE s1 (2 * y' + 1) + d) ((2 * y' + 1 : Nat) : Int) s1 = s2
    generalize g3 : nar ru (2 * y') (rE s2 (2 * x) - d) ((2 * x : Nat) : Int) s2 = s3
    rw [apl_two g1 g2 g3]
    have v1 : rCl s = 0 → (-10000 ≤ (rE s (2 * y') + c) ∧ (rE s (2 * y') + c) ≤ 10000) ∨ ((2 * x) % 2 = 1 ∧ 3000 ≤ (rE s (2 * y') + c)) ∨ ((2 * x) % 2 = 0 ∧ (rE s (2 * y') + c) ≤ 0) := fun q => by have := h.2.1 q (2 * y'); omega
    have d1 := nar_dec (ru := ru) (b := ((2 * y' : Nat) : Int)) h (show 2 * x < 240 by omega) v1
    have a1 := nar_RB' (ru := ru) (b := ((2 * y' : Nat) : Int)) h v1
    rw [g1] at d1 a1
    have v2 : rCl s1 = 0 → (-10000 ≤ (rE s1 (2 * y' + 1) + d) ∧ (rE s1 (2 * y' + 1) + d) ≤ 10000) ∨ ((2 * x + 1) % 2 = 1 ∧ 3000 ≤ (rE s1 (2 * y' + 1) + d)) ∨ ((2 * x + 1) % 2 = 0 ∧ (rE s1 (2 * y' + 1) + d) ≤ 0) := fun q => by have := a1.2.1 q (2 * y' + 1); omega
    have d2 := nar_dec (ru := ru) (b := ((2 * y' + 1 : Nat) : Int)) a1 (show 2 * x + 1 < 240 by omega) v2
    have a2 := nar_RB' (ru := ru) (b := ((2 * y' + 1 : Nat) : Int)) a1 v2
    rw [g2] at d2 a2
    have v3 : rCl s2 = 0 → (-10000 ≤ (rE s2 (2 * x) - d) ∧ (rE s2 (2 * x) - d) ≤ 10000) ∨ ((2 * y') % 2 = 1 ∧ 3000 ≤ (rE s2 (2 * x) - d)) ∨ ((2 * y') % 2 = 0 ∧ (rE s2 (2 * x) - d) ≤ 0) := fun q => by have := a2.2.1 q (2 * x); omega
    have d3 := nar_dec (ru := ru) (b := ((2 * x : Nat) : Int)) a2 (show 2 * y' < 240 by omega) v3
    have a3 := nar_RB' (ru := ru) (b := ((2 * x : Nat) : Int)) a2 v3
    rw [g3] at d3 a3
    have v4 : rCl s3 = 0 → (-10000 ≤ (rE s3 (2 * x + 1) - c) ∧ (rE s3 (2 * x + 1) - c) ≤ 10000) ∨ ((2 * y' + 1) % 2 = 1 ∧ 3000 ≤ (rE s3 (2 * x + 1) - c)) ∨ ((2 * y' + 1) % 2 = 0 ∧ (rE s3 (2 * x + 1) - c) ≤ 0) := fun q => by have := a3.2.1 q (2 * x + 1); omega
    have d4 := nar_dec (ru := ru) (b := ((2 * x + 1 : Nat) : Int)) a3 (show 2 * y' + 1 < 240 by omega) v4
    have d12 := d1.tr d2 (fun q => by rw [← g2]; exact nar_cl q)
    have d13 := d12.tr d3 (fun q => by rw [← g3]; exact nar_cl q)
    exact d13.tr d4 (fun q => nar_cl q)
theorem foldl_cl : ∀ (l : List Rl) (s : RSt), rCl s ≠ 0 → l.foldl apl s = s
  | [], _, _ => rfl
  | r :: l, s, h => by rw [List.foldl_cons, apl_cl h]; exact foldl_cl l s h
theorem foldl_dec : ∀ (l : List Rl) (s : RSt), RB s → (∀ r ∈ l, RlOk r) → Dec s (l.foldl apl s)
  | [], _, _, _ => Or.inr (Or.inl rfl)
  | r :: l, s, h, hl => by
    rw [List.foldl_cons]
    have hr := hl r (List.mem_cons_self ..)
    exact (apl_dec h hr).tr (foldl_dec l (apl s r) (apl_RB h hr) (fun q hq => hl q (List.mem_cons_of_mem _ hq))) (fun q => foldl_cl l _ q)
theorem rnd_dec {l : List Rl} {s : RSt} (h : RB s) (hl : ∀ r ∈ l, RlOk r) (hc : rCl (rnd l s) = 0) (hch : rCh (rnd l s) ≠ 0) : wid (rnd l s) < wid s := by
  rcases foldl_dec l (quiet s) (quiet_RB h) hl with q | q | q
  · exact absurd hc q
  · have q : rnd l s = quiet s := q
    rw [q] at hch
    exact absurd rfl hch
  · exact q
