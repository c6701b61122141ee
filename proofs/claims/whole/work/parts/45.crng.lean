/-! the class's ranges -/
def en (x : Int) : Int := if x = -5 then -1 else x
def ClsR (z : Hp) (t : Nat) (s : RSt) : Prop := (∀ e, e < 240 → z (t + 1) e = rE s e ∧ z (t + 2) e = en (rR s e) ∧ z (t + 3) e = en (rF s e)) ∧ z t 10 = (if rCl s = 0 then -1 else rWh s) ∧ z t 11 = rCh s
/-- the clash of ranges names a range -/
def WhOk (s : RSt) : Prop := rCl s ≠ 0 → 0 ≤ rWh s ∧ rWh s < 120
def CFr (t : Nat) (z z' : Hp) : Prop := (∀ j, j ≠ 10 → j ≠ 11 → z' t j = z t j) ∧ ∀ c, c ≠ t → c ≠ t + 1 → c ≠ t + 2 → c ≠ t + 3 → z' c = z c
theorem CFr.rf {t : Nat} {z : Hp} : CFr t z z := ⟨fun _ _ _ => rfl, fun _ _ _ _ _ => rfl⟩
theorem CFr.tr {t : Nat} {z z' z'' : Hp} (h : CFr t z z') (h' : CFr t z' z'') : CFr t z z'' := ⟨fun j a b => by rw [h'.1 j a b, h.1 j a b], fun c h1 h2 h3 h4 => by rw [h'.2 c h1 h2 h3 h4, h.2 c h1 h2 h3 h4]⟩
theorem nar_wh {ru : Int} {e : Nat} {v b : Int} {s : RSt} (he : e < 240) (h : WhOk s) : WhOk (nar ru e v b s) := by
  unfold nar
  split
  · exact h
  · next c =>
    split
    · exact h
    · intro hc
      show 0 ≤ (if fup (rE s) e v (2 * (e / 2) + 1) < fup (rE s) e v (2 * (e / 2)) then ((e / 2 : Nat) : Int) else rWh s) ∧ (if fup (rE s) e v (2 * (e / 2) + 1) < fup (rE s) e v (2 * (e / 2)) then ((e / 2 : Nat) : Int) else rWh s) < 120
      have hc : (if fup (rE s) e v (2 * (e / 2) + 1) < fup (rE s) e v (2 * (e / 2)) then (4 : Int) else 0) ≠ 0 := hc
      by_cases q : fup (rE s) e v (2 * (e / 2) + 1) < fup (rE s) e v (2 * (e / 2))
      · rw [if_pos q]; omega
      · rw [if_neg q] at hc; exact absurd rfl hc
theorem w_X3_change {t e k : Nat} {z : Hp} {K : Hp → Prop} {v b ru : Int} {s : RSt} (he : e < 240) (hv : rg v) (hk : k < 335) (hs : ClsR z t s) (hb : RB s) (hru : z (t + 8) k = ru) (hr0 : 0 ≤ ru) (c0 : rCl s = 0) (hn : ¬ ((e % 2 = 1 ∧ rE s e ≤ v) ∨ (e % 2 = 0 ∧ v ≤ rE s e))) (kk : ∀ z' : Hp, ClsR z' t (nar ru e v b s) → CFr t z z' → K z') : cal_X3_change t e v k (en b) z K := by
  obtain ⟨h1, h2, h3⟩ := hs
  have ib : inb (e : Int) 242 := ⟨by omega, by omega⟩
  rw [if_pos c0] at h2
  unfold cal_X3_change
  rw [Int.toNat_natCast, Int.toNat_natCast]
  refine ⟨ib, hp_i ⟨⟨by omega, by omega⟩, ib, hp_i ⟨ib, hp_i (hp_i ⟨⟨by omega, by omega⟩, lt_i ?_⟩)⟩⟩⟩
  rw [show (2 * ((e : Int) / 2)) = ((2 * (e / 2) : Nat) : Int) by omega, show (((2 * (e / 2) : Nat) : Int) + 1) = ((2 * (e / 2) + 1 : Nat) : Int) by omega, Int.toNat_natCast, Int.toNat_natCast]
  have vr : kup z (t + 1) e v (t + 8) k = ru := by rw [kup_c (by omega)]; exact hru
  rw [vr]
  have row : ∀ q, q < 240 → (kup (kup (kup (kup z (t + 1) e v) (t + 2) e ru) (t + 3) e (en b)) t 11 1) (t + 1) q = fup (rE s) e v q := fun q hq => by
    rw [kup_c (by omega), kup_c (by omega), kup_c (by omega)]
    by_cases g : q = e
    · subst g; rw [kup_eq, fup_eq]
    · rw [kup_n (fun r => g r.2), fup_ne g]; exact (h1 q hq).1
  have row2 : ∀ q, q < 240 → (kup (kup (kup (kup z (t + 1) e v) (t + 2) e ru) (t + 3) e (en b)) t 11 1) (t + 2) q = en (fup (rR s) e ru q) := fun q hq => by
    rw [kup_c (by omega), kup_c (by omega)]
    by_cases g : q = e
    · subst g; rw [kup_eq, fup_eq]; unfold en; rw [if_neg (by omega)]
    · rw [kup_n (fun r => g r.2), kup_c (by omega), fup_ne g]; exact (h1 q hq).2.1
  have row3 : ∀ q, q < 240 → (kup (kup (kup (kup z (t + 1) e v) (t + 2) e ru) (t + 3) e (en b)) t 11 1) (t + 3) q = en (fup (rF s) e b q) := fun q hq => by
    rw [kup_c (by omega)]
    by_cases g : q = e
    · subst g; rw [kup_eq, fup_eq]
    · rw [kup_n (fun r => g r.2), kup_c (by omega), kup_c (by omega), fup_ne g]; exact (h1 q hq).2.2
  have s11 : (kup (kup (kup (kup z (t + 1) e v) (t + 2) e ru) (t + 3) e (en b)) t 11 1) t 11 = 1 := kup_eq
  have sj : ∀ j, j ≠ 11 → (kup (kup (kup (kup z (t + 1) e v) (t + 2) e ru) (t + 3) e (en b)) t 11 1) t j = z t j := fun j hj => by
    rw [kup_n (fun r => hj r.2), kup_c (by omega), kup_c (by omega), kup_c (by omega)]
  have cj : ∀ c, c ≠ t → c ≠ t + 1 → c ≠ t + 2 → c ≠ t + 3 → (kup (kup (kup (kup z (t + 1) e v) (t + 2) e ru) (t + 3) e (en b)) t 11 1) c = z c := fun c a0 a1 a2 a3 => by
    funext q; rw [kup_c a0, kup_c a3, kup_c a2, kup_c a1]
  generalize kup (kup (kup (kup z (t + 1) e v) (t + 2) e ru) (t + 3) e (en b)) t 11 1 = z7 at *
  have bound : ∀ q, rg (fup (rE s) e v q) := fun q => by
    by_cases g : q = e
    · subst g; rw [fup_eq]; exact hv
    · rw [fup_ne g]; have := hb.1 q; constructor <;> omega
  rw [row _ (by omega), row _ (by omega)]
  have enn : nar ru e v b s = (fup (rE s) e v, fup (rR s) e ru, fup (rF s) e b, (if fup (rE s) e v (2 * (e / 2) + 1) < fup (rE s) e v (2 * (e / 2)) then 4 else 0), (if fup (rE s) e v (2 * (e / 2) + 1) < fup (rE s) e v (2 * (e / 2)) then ((e / 2 : Nat) : Int) else rWh s), 1) := by
    unfold nar; rw [if_neg (fun r => r c0), if_neg hn]
  rw [enn] at kk
  refine ⟨⟨by omega, by omega⟩, ⟨by omega, by omega⟩, bound _, bound _, w_ite (fun q => kk z7 ⟨fun q hq => ⟨row q hq, row2 q hq, row3 q hq⟩, ?_, s11⟩ ⟨fun j _ h => sj j h, cj⟩) (fun q => hp_i (kk _ ⟨fun q hq => ?_, ?_, ?_⟩ ⟨fun j a1 a2 => ?_, fun c a0 a1 a2 a3 => ?_⟩))⟩
  · show z7 t 10 = if (if _ then (4 : Int) else 0) = 0 then -1 else _
    rw [if_neg (show ¬ fup (rE s) e v (2 * (e / 2) + 1) < fup (rE s) e v (2 * (e / 2)) by omega), if_pos rfl, sj 10 (by decide)]; exact h2
  · rw [kup_c (by omega), kup_c (by omega), kup_c (by omega)]
    exact ⟨row q hq, row2 q hq, row3 q hq⟩
  · show kup z7 t 10 _ t 10 = if (if _ then (4 : Int) else 0) = 0 then -1 else (if _ then _ else _)
    have qq : fup (rE s) e v (2 * (e / 2) + 1) < fup (rE s) e v (2 * (e / 2)) := by omega
    rw [if_pos qq, if_pos qq, if_neg (by decide), kup_eq]; omega
  · rw [kup_n (fun r => absurd r.2 (by decide))]; exact s11
  · rw [kup_n (fun r => a1 r.2)]; exact sj j a2
  · funext q; rw [kup_c a0, cj c a0 a1 a2 a3]
