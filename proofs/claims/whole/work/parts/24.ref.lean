/-! the reference's working out -/
theorem lt_i {v : Int} {f : Int → Prop} (h : f v) : lt1 v f := h
theorem hp_i {z : Hp} {f : Hp → Prop} (h : f z) : hp1 z f := h
theorem w_if2 {c : Prop} [Decidable c] {A B P Q : Prop} (hp : P) (hq : Q) (ht : c → A) (hf : ¬ c → B) : P ∧ Q ∧ (if c then A else B) := ⟨hp, hq, w_ite ht hf⟩
theorem SOk.n {M : Nat} {S : Nat → Int} (h : SOk M S) : S 0 = sN S ∧ sN S ≤ 30 := by
  have := h.1
  unfold sN
  omega
theorem SOk.t {M : Nat} {S : Nat → Int} (h : SOk M S) : S 1 = sT S ∧ sT S ≤ M := by
  have := h.2.1
  unfold sT
  omega
theorem StOk.rgs {n : Nat} {S : Nat → Int} {t : Nat} (h : StOk n S t) : rg (S (242 + 6 * t)) ∧ rg (S (242 + 6 * t + 5)) := by
  obtain ⟨h0, h1, h2, h3, h4, h5⟩ := h
  unfold fS at h0
  unfold fV at h5
  constructor <;> constructor <;> omega
theorem StOk.at1 {n : Nat} {S : Nat → Int} {t : Nat} (h : StOk n S t) : S (242 + 6 * t + 1) = (fA S t : Int) := by
  have := h.2.1
  unfold fA
  omega
theorem StOk.at2 {n : Nat} {S : Nat → Int} {t : Nat} (h : StOk n S t) (h2 : isTwo (fS S t)) : S (242 + 6 * t + 2) = ((fB S t).toNat : Int) := by
  rcases h.2.2.1 with q | q
  · have := q.2
    unfold fB at *
    omega
  · exact absurd h2 q.1
theorem w_X10_joins {z : Hp} {K : Hp → Prop} {M : Nat} (hM : M ≤ 61) (h : SOk M (z 1)) (k : ∀ z' : Hp, (∀ p, p < 30 → z' 6 p = gOf (z 1) p) → (∀ c, c ≠ 6 → z' c = z c) → K z') : cal_X10_joins z K := by
  obtain ⟨hn0, hn⟩ := h.n
  obtain ⟨ht0, ht⟩ := h.t
  show LP1 _ 0 z
  refine LP1_for 30 (fun j z' => (∀ p, p < j → z' 6 p = p) ∧ ∀ c, c ≠ 6 → z' c = z c) 0 rfl (by omega) ⟨fun p hp => absurd hp (by omega), fun _ _ => rfl⟩ (fun X j z1 hj hI hX => ?_) (fun X z1 hI => ?_)
  · refine w_if ⟨by omega, by omega⟩ (fun e => absurd e (by omega)) (fun _ => ⟨⟨by omega, by omega⟩, hX _ ⟨fun p hp => ?_, fun c hc => ?_⟩⟩)
    · rw [Int.toNat_natCast]
      by_cases e : p = j
      · subst e; exact kup_eq
      · rw [kup_n (fun q => e q.2)]; exact hI.1 p (by omega)
    · funext j; rw [kup_c hc, hI.2 c hc]
  refine w_if ⟨by omega, by omega⟩ (fun _ => ?_) (fun e => absurd e (by omega))
  show LP1 _ 0 z1
  refine LP1_for (sT (z 1)) (fun j z' => (∀ p, p < 30 → z' 6 p = gL (z 1) (lvK (z 1) j) p) ∧ ∀ c, c ≠ 6 → z' c = z c) 0 rfl (by omega) ⟨fun p hp => hI.1 p hp, hI.2⟩ (fun X j z1 hj hI hX => ?_) (fun X z1 hI => ?_)
  · have e1 : z1 1 = z 1 := hI.2 1 (by decide)
    have ho := h.2.2.2 j hj
    have hgg := gL_good h j (by omega)
    refine w_if2 ⟨by omega, by omega⟩ (by rw [e1]; constructor <;> omega) (fun e => absurd e (by rw [e1]; omega)) (fun _ => ?_)
    have skip : ¬ (fV (z 1) j = 1 ∧ fS (z 1) j = 5) → X (↑j + 1) z1 := fun hns => hX z1 ⟨fun p hp => by
      rw [hI.1 p hp, lvK_succ]
      by_cases q : isLv (z 1) j = true
      · rw [if_pos q, gL_snoc]
        unfold jst
        rw [if_neg (fun q5 => hns ⟨of_decide_eq_true q, q5⟩)]
      · rw [if_neg q, List.append_nil], hI.2⟩
    refine w_X10_isLive (s := 5) (by omega) ⟨by decide, by decide⟩ (by rw [e1]; exact ho.rgs.2) (by rw [e1]; exact ho.rgs.1) (fun q => ?_) (fun q => ?_)
    · rw [e1] at q
      have q5 : fS (z 1) j = 5 := q.2
      have two : isTwo (fS (z 1) j) := ⟨by omega, by omega, by omega⟩
      refine w_t rg1 ?_
      refine w_X10_told (w := 1) (by omega) ?_
      rw [e1, ho.at1]
      have ha := ho.a
      have hb := ho.b two
      refine ⟨⟨by omega, by omega⟩, ?_⟩
      refine lt_i ?_
      refine w_X10_told (w := 2) (by omega) ?_
      rw [e1, ho.at2 two]
      refine ⟨⟨by omega, by omega⟩, ?_⟩
      rw [Int.toNat_natCast, Int.toNat_natCast, hI.1 _ (by omega), hI.1 _ (by omega)]
      have la := hgg.1 (fA (z 1) j)
      have lb := hgg.1 (fB (z 1) j).toNat
      refine ⟨⟨by omega, by omega⟩, ⟨by omega, by omega⟩, ?_⟩
      show LP1 _ 0 z1
      generalize hga : gL (z 1) (lvK (z 1) j) (fA (z 1) j) = a at *
      generalize hgb : gL (z 1) (lvK (z 1) j) (fB (z 1) j).toNat = b at *
      have hmin : (if (b : Int) < a then (b : Int) else a) = ((min a b : Nat) : Int) := by
        by_cases q : b < a
        · rw [if_pos (by omega)]; omega
        · rw [if_neg (by omega)]; omega
      rw [hmin]
      refine LP1_for (sN (z 1)) (fun i z' => (∀ p, p < 30 → z' 6 p = if p < i ∧ (gL (z 1) (lvK (z 1) j) p = a ∨ gL (z 1) (lvK (z 1) j) p = b) then ((min a b : Nat) : Int) else gL (z 1) (lvK (z 1) j) p) ∧ ∀ c, c ≠ 6 → z' c = z c) 0 rfl (by omega) ⟨fun p hp => by rw [if_neg (by omega)]; exact hI.1 p hp, hI.2⟩ (fun X i z2 hi hI hX => ?_) (fun X z2 hI => ?_)
      · have e1 : z2 1 = z 1 := hI.2 1 (by decide)
        have hv := hI.1 i (by omega)
        rw [if_neg (by omega)] at hv
        have li := hgg.1 i
        have rv : rg (z2 6 i) := by rw [hv]; constructor <;> omega
        refine w_if2 ⟨by omega, by omega⟩ (by rw [e1]; constructor <;> omega) (fun e => absurd e (by rw [e1]; omega)) (fun _ => ⟨⟨by omega, by omega⟩, ?_⟩)
        rw [Int.toNat_natCast]
        have upd : ∀ v : Int, v = (if (gL (z 1) (lvK (z 1) j) i = a ∨ gL (z 1) (lvK (z 1) j) i = b) then ((min a b : Nat) : Int) else gL (z 1) (lvK (z 1) j) i) → X (↑i + 1) (kup z2 6 i v) := fun v hv => hX _ ⟨fun p hp => by
          by_cases e : p = i
          · subst e
            rw [kup_eq, hv]
            by_cases c : (gL (z 1) (lvK (z 1) j) p = a ∨ gL (z 1) (lvK (z 1) j) p = b)
            · rw [if_pos c, if_pos ⟨by omega, c⟩]
            · rw [if_neg c, if_neg (fun q => c q.2)]
          · rw [kup_n (fun q => e q.2), hI.1 p hp]
            by_cases c : p < i ∧ (gL (z 1) (lvK (z 1) j) p = a ∨ gL (z 1) (lvK (z 1) j) p = b)
            · rw [if_pos c, if_pos ⟨by omega, c.2⟩]
            · rw [if_neg c, if_neg (fun q => c ⟨by omega, q.2⟩)], fun c hc => by funext j; rw [kup_c hc, hI.2 c hc]⟩
        refine ⟨rv, ⟨by omega, by omega⟩, w_ite (fun e => ⟨⟨by omega, by omega⟩, upd _ ?_⟩) (fun e => ⟨⟨by omega, by omega⟩, rv, ⟨by omega, by omega⟩, w_ite (fun e' => ⟨⟨by omega, by omega⟩, upd _ ?_⟩) (fun e' => ⟨⟨by omega, by omega⟩, ⟨by omega, by omega⟩, upd _ ?_⟩)⟩)⟩
        · rw [hv] at e; rw [if_pos (Or.inl (by omega))]
        · rw [hv] at e'; rw [if_pos (Or.inr (by omega))]
        · rw [hv] at e e'; rw [if_neg (by omega), hv]
      · have e1 : z2 1 = z 1 := hI.2 1 (by decide)
        refine w_if2 ⟨by omega, by omega⟩ (by rw [e1]; constructor <;> omega) (fun _ => ?_) (fun e => absurd e (by rw [e1]; omega))
        refine hX z2 ⟨fun p hp => ?_, hI.2⟩
        rw [hI.1 p hp, lvK_succ, if_pos (show isLv (z 1) j = true from decide_eq_true q.1), gL_snoc]
        unfold jst
        rw [if_pos q5, hga, hgb]
        by_cases c : p < sN (z 1) ∧ (gL (z 1) (lvK (z 1) j) p = a ∨ gL (z 1) (lvK (z 1) j) p = b)
        · rw [if_pos c, if_pos c]
        · rw [if_neg c, if_neg c]
    · rw [e1] at q
      exact w_f rg0 (skip q)
  · have e1 : z1 1 = z 1 := hI.2 1 (by decide)
    refine w_if2 ⟨by omega, by omega⟩ (by rw [e1]; constructor <;> omega) (fun _ => k z1 hI.1 hI.2) (fun e => absurd e (by rw [e1]; omega))
