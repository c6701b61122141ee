/-! ranges: ends, what they rest on, the clash -/
abbrev RSt : Type := (Nat → Int) × (Nat → Int) × (Nat → Int) × Int × Int × Int
def rE (s : RSt) : Nat → Int := s.1
def rR (s : RSt) : Nat → Int := s.2.1
def rF (s : RSt) : Nat → Int := s.2.2.1
def rCl (s : RSt) : Int := s.2.2.2.1
def rWh (s : RSt) : Int := s.2.2.2.2.1
def rCh (s : RSt) : Int := s.2.2.2.2.2
def nar (ru : Int) (e : Nat) (v b : Int) (s : RSt) : RSt :=
  if rCl s ≠ 0 then s
  else if (e % 2 = 1 ∧ rE s e ≤ v) ∨ (e % 2 = 0 ∧ v ≤ rE s e) then s
  else (fup (rE s) e v, fup (rR s) e ru, fup (rF s) e b, (if fup (rE s) e v (2 * (e / 2) + 1) < fup (rE s) e v (2 * (e / 2)) then 4 else 0), (if fup (rE s) e v (2 * (e / 2) + 1) < fup (rE s) e v (2 * (e / 2)) then ((e / 2 : Nat) : Int) else rWh s), 1)
/-- ends stay where they can be -/
def RB (s : RSt) : Prop := (∀ e, -10000 ≤ rE s e ∧ rE s e ≤ 10000) ∧ (rCl s = 0 → ∀ e, 0 ≤ rE s e ∧ rE s e ≤ 3000) ∧ (rCl s = 0 ∨ rCl s = 4) ∧ (rCl s = 0 → ∀ x, rE s (2 * x) ≤ rE s (2 * x + 1))
theorem nar_RB {ru : Int} {e : Nat} {v b : Int} {s : RSt} (h : RB s) (hv : rCl s = 0 → -10000 ≤ v ∧ v ≤ 10000) : RB (nar ru e v b s) := by
  unfold nar
  by_cases c0 : rCl s ≠ 0
  · rw [if_pos c0]; exact h
  · rw [if_neg c0]
    have c0 : rCl s = 0 := Decidable.byContradiction c0
    by_cases c1 : (e % 2 = 1 ∧ rE s e ≤ v) ∨ (e % 2 = 0 ∧ v ≤ rE s e)
    · rw [if_pos c1]; exact h
    · rw [if_neg c1]
      have hv := hv c0
      have h0 := h.2.1 c0
      have hx := h.2.2.2 c0
      refine ⟨fun q => ?_, fun hc q => ?_, ?_, fun hc x => ?_⟩
      · show -10000 ≤ fup (rE s) e v q ∧ fup (rE s) e v q ≤ 10000
        by_cases g : q = e
        · subst g; rw [fup_eq]; exact hv
        · rw [fup_ne g]; exact h.1 q
      · have hc : (if fup (rE s) e v (2 * (e / 2) + 1) < fup (rE s) e v (2 * (e / 2)) then (4 : Int) else 0) = 0 := hc
        have hc : ¬ fup (rE s) e v (2 * (e / 2) + 1) < fup (rE s) e v (2 * (e / 2)) := fun q => by rw [if_pos q] at hc; exact absurd hc (by decide)
        show 0 ≤ fup (rE s) e v q ∧ fup (rE s) e v q ≤ 3000
        by_cases g : q = e
        · subst g
          rw [fup_eq]
          have hq := h0 q
          by_cases o : q % 2 = 1
          · rw [show 2 * (q / 2) + 1 = q by omega, fup_eq, fup_ne (by omega)] at hc
            have := h0 (2 * (q / 2))
            omega
          · rw [show 2 * (q / 2) = q by omega, fup_eq, fup_ne (by omega)] at hc
            have := h0 (q + 1)
            omega
        · rw [fup_ne g]; exact h0 q
      · show (if fup (rE s) e v (2 * (e / 2) + 1) < fup (rE s) e v (2 * (e / 2)) then (4 : Int) else 0) = 0 ∨ (if fup (rE s) e v (2 * (e / 2) + 1) < fup (rE s) e v (2 * (e / 2)) then (4 : Int) else 0) = 4
        split
        · exact Or.inr rfl
        · exact Or.inl rfl
      · have hc : (if fup (rE s) e v (2 * (e / 2) + 1) < fup (rE s) e v (2 * (e / 2)) then (4 : Int) else 0) = 0 := hc
        have hc : ¬ fup (rE s) e v (2 * (e / 2) + 1) < fup (rE s) e v (2 * (e / 2)) := fun q => by rw [if_pos q] at hc; exact absurd hc (by decide)
        show fup (rE s) e v (2 * x) ≤ fup (rE s) e v (2 * x + 1)
        by_cases g : x = e / 2
        · subst g; omega
        · rw [fup_ne (by omega), fup_ne (by omega)]; exact hx x
/-- the reference's rows of ends -/
def RefR (z : Hp) (s : RSt) : Prop := (∀ e, e < 240 → z 10 e = rE s e ∧ z 11 e = rR s e ∧ z 12 e = rF s e) ∧ z 0 17 = rCl s ∧ z 0 18 = rWh s ∧ z 0 21 = rCh s
/-- what narrowing leaves alone -/
def RFr (z z' : Hp) : Prop := (∀ j, j ≠ 17 → j ≠ 18 → j ≠ 21 → z' 0 j = z 0 j) ∧ ∀ c, c ≠ 0 → c ≠ 10 → c ≠ 11 → c ≠ 12 → z' c = z c
theorem RFr.rf {z : Hp} : RFr z z := ⟨fun _ _ _ _ => rfl, fun _ _ _ _ _ => rfl⟩
theorem RFr.tr {z z' z'' : Hp} (h : RFr z z') (h' : RFr z' z'') : RFr z z'' := ⟨fun j a b c => by rw [h'.1 j a b c, h.1 j a b c], fun c h1 h2 h3 h4 => by rw [h'.2 c h1 h2 h3 h4, h.2 c h1 h2 h3 h4]⟩
theorem w_X10_narrows {z : Hp} {K : Hp → Prop} {e : Nat} {v b ru : Int} {s : RSt} (he : e < 240) (hv : rg v) (hs : RefR z s) (hb : RB s) (hru : z 0 20 = ru) (k : ∀ z' : Hp, RefR z' (nar ru e v b s) → RFr z z' → K z') : cal_X10_narrows e v b z K := by
  obtain ⟨h1, h2, h3, h4⟩ := hs
  have hcl : rg (z 0 17) := by rw [h2]; rcases hb.2.2.1 with q | q <;> rw [q] <;> constructor <;> omega
  unfold cal_X10_narrows
  refine w_if hcl (fun c0 => ⟨⟨by omega, by omega⟩, ?_⟩) (fun c0 => k z ?_ RFr.rf)
  rotate_left
  · unfold nar; rw [if_pos (by rw [← h2]; exact c0)]; exact ⟨h1, h2, h3, h4⟩
  have c0' : rCl s = 0 := by rw [← h2]; exact c0
  have ee := h1 e he
  have be := hb.1 e
  have ib : inb (e : Int) 240 := ⟨by omega, by omega⟩
  have skip : ((e % 2 = 1 ∧ rE s e ≤ v) ∨ (e % 2 = 0 ∧ v ≤ rE s e)) → K z := fun q => k z (by unfold nar; rw [if_neg (fun r => r c0'), if_pos q]; exact ⟨h1, h2, h3, h4⟩) RFr.rf
  refine jn_i (fun J => ∀ u : Int, ((u = 1 ∧ e % 2 = 1) ∨ (u = 0 ∧ e % 2 = 0)) → J u) (fun u hu => ?_) (fun J hJ => ⟨⟨by omega, by omega⟩, w_ite (fun o => lt_i (hJ 1 (Or.inl ⟨rfl, by omega⟩))) (fun o => lt_i (hJ 0 (Or.inr ⟨rfl, by omega⟩)))⟩)
  refine jn_i (fun (J : Prop) => ¬ ((e % 2 = 1 ∧ rE s e ≤ v) ∨ (e % 2 = 0 ∧ v ≤ rE s e)) → J) (fun hn => ?_) (fun J hJ => ?_)
  rotate_left
  · rcases hu with ⟨rfl, o⟩ | ⟨rfl, o⟩
    · refine w_t rg1 ?_
      rw [Int.toNat_natCast, ee.1]
      exact ⟨ib, ⟨by omega, by omega⟩, hv, w_ite (fun q => hJ (by omega)) (fun q => skip (Or.inl ⟨o, by omega⟩))⟩
    · refine w_f rg0 ?_
      rw [Int.toNat_natCast, ee.1]
      exact ⟨ib, ⟨by omega, by omega⟩, hv, w_ite (fun q => hJ (by omega)) (fun q => skip (Or.inr ⟨o, by omega⟩))⟩
  refine ⟨ib, hp_i ⟨ib, hp_i ⟨ib, hp_i (hp_i ?_)⟩⟩⟩
  rw [Int.toNat_natCast, iand_m2 (by omega), ior_1 (by omega), Int.toNat_natCast, Int.toNat_natCast]
  have row : ∀ q, q < 240 → (kup (kup (kup (kup z 10 e v) 11 e (kup z 10 e v 0 20)) 12 e b) 0 21 1) 10 q = fup (rE s) e v q := fun q hq => by
    rw [kup_c (by decide), kup_c (by decide), kup_c (by decide)]
    by_cases g : q = e
    · subst g; rw [kup_eq, fup_eq]
    · rw [kup_n (fun r => g r.2), fup_ne g]; exact (h1 q hq).1
  have row2 : ∀ q, q < 240 → (kup (kup (kup (kup z 10 e v) 11 e (kup z 10 e v 0 20)) 12 e b) 0 21 1) 11 q = fup (rR s) e ru q := fun q hq => by
    rw [kup_c (by decide), kup_c (by decide)]
    by_cases g : q = e
    · subst g; rw [kup_eq, fup_eq, kup_c (by decide)]; exact hru
    · rw [kup_n (fun r => g r.2), kup_c (by decide), fup_ne g]; exact (h1 q hq).2.1
  have row3 : ∀ q, q < 240 → (kup (kup (kup (kup z 10 e v) 11 e (kup z 10 e v 0 20)) 12 e b) 0 21 1) 12 q = fup (rF s) e b q := fun q hq => by
    rw [kup_c (by decide)]
    by_cases g : q = e
    · subst g; rw [kup_eq, fup_eq]
    · rw [kup_n (fun r => g r.2), kup_c (by decide), kup_c (by decide), fup_ne g]; exact (h1 q hq).2.2
  have s21 : (kup (kup (kup (kup z 10 e v) 11 e (kup z 10 e v 0 20)) 12 e b) 0 21 1) 0 21 = 1 := kup_eq
  have sj : ∀ j, j ≠ 21 → (kup (kup (kup (kup z 10 e v) 11 e (kup z 10 e v 0 20)) 12 e b) 0 21 1) 0 j = z 0 j := fun j hj => by
    rw [kup_n (fun r => hj r.2), kup_c (by decide), kup_c (by decide), kup_c (by decide)]
  have cj : ∀ c, c ≠ 0 → c ≠ 10 → c ≠ 11 → c ≠ 12 → (kup (kup (kup (kup z 10 e v) 11 e (kup z 10 e v 0 20)) 12 e b) 0 21 1) c = z c := fun c a0 a1 a2 a3 => by
    funext q; rw [kup_c a0, kup_c a3, kup_c a2, kup_c a1]
  generalize kup (kup (kup (kup z 10 e v) 11 e (kup z 10 e v 0 20)) 12 e b) 0 21 1 = z7 at *
  have bound : ∀ q, rg (fup (rE s) e v q) := fun q => by
    by_cases g : q = e
    · subst g; rw [fup_eq]; exact hv
    · rw [fup_ne g]; have := hb.1 q; constructor <;> omega
  rw [row _ (by omega), row _ (by omega)]
  have bl := bound (2 * (e / 2))
  have bu := bound (2 * (e / 2) + 1)
  have en : nar ru e v b s = (fup (rE s) e v, fup (rR s) e ru, fup (rF s) e b, (if fup (rE s) e v (2 * (e / 2) + 1) < fup (rE s) e v (2 * (e / 2)) then 4 else 0), (if fup (rE s) e v (2 * (e / 2) + 1) < fup (rE s) e v (2 * (e / 2)) then ((e / 2 : Nat) : Int) else rWh s), 1) := by
    unfold nar; rw [if_neg (fun r => r c0'), if_neg hn]
  rw [en] at k
  refine ⟨⟨by omega, by omega⟩, ⟨by omega, by omega⟩, bl, bu, w_ite (fun q => k z7 ⟨fun q hq => ⟨row q hq, row2 q hq, row3 q hq⟩, ?_, ?_, s21⟩ ⟨fun j _ _ h => sj j h, cj⟩) (fun q => hp_i ⟨⟨by omega, by omega⟩, hp_i (k _ ⟨fun q hq => ?_, ?_, ?_, ?_⟩ ⟨fun j a1 a2 a3 => ?_, fun c a0 a1 a2 a3 => ?_⟩)⟩)⟩
  · show z7 0 17 = if _ then _ else _
    rw [if_neg (by omega), sj 17 (by decide)]; exact c0
  · show z7 0 18 = if _ then _ else _
    rw [if_neg (by omega), sj 18 (by decide)]; exact h3
  · rw [kup_c (by decide), kup_c (by decide), kup_c (by decide), kup_c (by decide), kup_c (by decide), kup_c (by decide)]
    exact ⟨row q hq, row2 q hq, row3 q hq⟩
  · show kup (kup z7 0 17 4) 0 18 _ 0 17 = if _ then _ else _
    rw [if_pos (by omega), kup_n (by decide), kup_eq]
  · show kup (kup z7 0 17 4) 0 18 _ 0 18 = if _ then _ else _
    rw [if_pos (by omega), kup_eq]; omega
  · rw [kup_n (by decide), kup_n (by decide)]; exact s21
  · rw [kup_n (fun r => a2 r.2), kup_n (fun r => a1 r.2)]; exact sj j a3
  · funext q; rw [kup_c a0, kup_c a0, cj c a0 a1 a2 a3]
