/-! the reference's ages are the class's generations -/
theorem w_X10_ages {n : Nat} {mo fa ab : Nat → Nat} {z : Hp} {K : Int → Hp → Prop} (hn : n ≤ 30) (h0 : z 1 0 = n) (h7 : Row z 7 mo) (h8 : Row z 8 fa) (h9 : Row z 9 ab) (hpr : PaOk n (fun p => mo p ||| fa p)) (hab : IsAb n (fun p => mo p ||| fa p) ab) (hm : ∀ p, p < 30 → mo p < 1073741824) (hf : ∀ p, p < 30 → fa p < 1073741824) (k1 : ¬ HasRing ab → ∀ z' : Hp, (∀ p, p < n → z' 17 p = (hgt (fun p => mo p ||| fa p) 30 p : Nat)) → (∀ c, c ≠ 17 → z' c = z c) → K 1 z') (k0 : HasRing ab → ∀ z' : Hp, (∀ c, c ≠ 17 → z' c = z c) → K 0 z') : cal_X10_ages z K := by
  show LP1 _ 0 z
  refine LP1_for n (fun j z' => (∀ p, p < j → z' 17 p = 0 ∧ (ab p).testBit p = false) ∧ ∀ c, c ≠ 17 → z' c = z c) 0 rfl (by omega) ⟨fun p hp => absurd hp (by omega), fun _ _ => rfl⟩ (fun X j z1 hj hI hX => ?_) (fun X z1 hI => ?_)
  · obtain ⟨i1, i2⟩ := hI
    have e1 : z1 1 0 = n := by rw [i2 1 (by decide)]; exact h0
    refine w_if2 ⟨by omega, by omega⟩ (by rw [e1]; constructor <;> omega) (fun e => absurd e (by rw [e1]; omega)) (fun _ => ⟨⟨by omega, by omega⟩, hp_i ?_⟩)
    rw [Int.toNat_natCast, kup_c (show 9 ≠ 17 by decide), h9.to (i2 9 (by decide)) j (by omega)]
    have fr : ∀ c, c ≠ 17 → kup z1 17 j 0 c = z c := fun c hc => by funext i; rw [kup_c hc, i2 c hc]
    refine ⟨⟨by omega, by omega⟩, w_X10_has (p30 hn (hab j (by omega)).1) (by omega) (fun h => w_t rg1 (k0 ⟨j, by omega, h⟩ _ fr)) (fun h => w_f rg0 (lt_i (hX _ ⟨fun p hp => ?_, fr⟩)))⟩
    by_cases e : p = j
    · subst e; exact ⟨kup_eq, h⟩
    · rw [kup_n (fun q => e q.2)]; exact i1 p (by omega)
  obtain ⟨i1, i2⟩ := hI
  have e1 : z1 1 0 = n := by rw [i2 1 (by decide)]; exact h0
  refine w_if2 ⟨by omega, by omega⟩ (by rw [e1]; constructor <;> omega) (fun _ => ?_) (fun e => absurd e (by rw [e1]; omega))
  have hac : ∀ p, p < 30 → (ab p).testBit p = false := fun p hp => by
    cases hb : (ab p).testBit p with
    | false => rfl
    | true =>
      have := Rch.first hpr (((hab p hp).2 p).mp hb)
      rw [(i1 p this).2] at hb
      exact hb.symm
  have nr : ¬ HasRing ab := fun ⟨p, hp, hb⟩ => by rw [hac p hp] at hb; cases hb
  generalize hpe : (fun p => mo p ||| fa p) = pr at *
  have hH : ∀ p, p < 30 → mxO (hgt pr 30) (pr p) 30 = hgt pr 30 p := fun p hp => hgt_fix hn hab hac hp
  have hH30 : ∀ p, hgt pr 30 p ≤ 30 := fun p => hgt_le pr 30 p
  show LP1 _ 0 z1
  refine LP1_for n (fun j z' => ∃ A : Nat → Nat, (∀ p, p < n → z' 17 p = (A p : Nat) ∧ A p ≤ hgt pr 30 p ∧ (cntB (ab p) n < j → A p = hgt pr 30 p)) ∧ ∀ c, c ≠ 17 → z' c = z c) 0 rfl (by omega) ⟨fun _ => 0, fun p hp => ⟨(i1 p hp).1, Nat.zero_le _, fun q => absurd q (by omega)⟩, i2⟩ (fun X j z2 hj hI hX => ?_) (fun X z2 hI => ?_)
  · obtain ⟨A, j1, j2⟩ := hI
    have e1 : z2 1 0 = n := by rw [j2 1 (by decide)]; exact h0
    refine w_if2 ⟨by omega, by omega⟩ (by rw [e1]; constructor <;> omega) (fun e => absurd e (by rw [e1]; omega)) (fun _ => ?_)
    show LP1 _ 0 z2
    refine LP1_for n (fun i z' => ∃ B : Nat → Nat, (∀ p, p < n → z' 17 p = (B p : Nat) ∧ B p ≤ hgt pr 30 p ∧ (cntB (ab p) n < j → B p = hgt pr 30 p) ∧ (p < i → cntB (ab p) n < j + 1 → B p = hgt pr 30 p)) ∧ ∀ c, c ≠ 17 → z' c = z c) 0 rfl (by omega) ⟨A, fun p hp => ⟨(j1 p hp).1, (j1 p hp).2.1, (j1 p hp).2.2, fun q => absurd q (by omega)⟩, j2⟩ (fun Y i z3 hi hI hY => ?_) (fun Y z3 hI => ?_)
    · obtain ⟨B, l1, l2⟩ := hI
      have e1 : z3 1 0 = n := by rw [l2 1 (by decide)]; exact h0
      refine w_if2 ⟨by omega, by omega⟩ (by rw [e1]; constructor <;> omega) (fun e => absurd e (by rw [e1]; omega)) (fun _ => ?_)
      show LP1 _ 0 z3
      refine LP1_for n (fun x z' => ∃ b : Nat, z' 17 i = (b : Nat) ∧ b ≤ hgt pr 30 i ∧ (cntB (ab i) n < j → b = hgt pr 30 i) ∧ (∀ q, q < x → (pr i).testBit q = true → B q + 1 ≤ b) ∧ (∀ p, p ≠ i → z' 17 p = z3 17 p) ∧ ∀ c, c ≠ 17 → z' c = z c) 0 rfl (by omega) ⟨B i, (l1 i hi).1, (l1 i hi).2.1, (l1 i hi).2.2.1, fun q hq => absurd hq (by omega), fun _ _ => rfl, l2⟩ (fun W x z4 hx hI hW => ?_) (fun W z4 hI => ?_)
      · obtain ⟨b, m1, m2, m3, m4, m5, m6⟩ := hI
        have e1 : z4 1 0 = n := by rw [m6 1 (by decide)]; exact h0
        have Hi := hH30 i
        refine w_if2 ⟨by omega, by omega⟩ (by rw [e1]; constructor <;> omega) (fun e => absurd e (by rw [e1]; omega)) (fun _ => ⟨⟨by omega, by omega⟩, ⟨by omega, by omega⟩, ?_⟩)
        have epr : mo i ||| fa i = pr i := by rw [← hpe]
        rw [Int.toNat_natCast, Int.toNat_natCast, h7.to (m6 7 (by decide)) i (by omega), h8.to (m6 8 (by decide)) i (by omega), ior_n (by have := hm i (by omega); omega) (by have := hf i (by omega); omega), epr]
        have ii : inb (i : Int) 30 := ⟨by omega, by omega⟩
        have ix : inb (x : Int) 30 := ⟨by omega, by omega⟩
        have pb : pr i < 1073741824 := by rw [← epr]; exact or_lt (hm i (by omega)) (hf i (by omega))
        have go : ∀ (J : Hp → Prop) (b' : Nat), (∀ z' : Hp, (∃ b : Nat, z' 17 i = (b : Nat) ∧ b ≤ hgt pr 30 i ∧ (cntB (ab i) n < j → b = hgt pr 30 i) ∧ (∀ q, q < x + 1 → (pr i).testBit q = true → B q + 1 ≤ b) ∧ (∀ p, p ≠ i → z' 17 p = z3 17 p) ∧ ∀ c, c ≠ 17 → z' c = z c) → J z') → b ≤ b' → b' ≤ hgt pr 30 i → ((pr i).testBit x = true → B x + 1 ≤ b') → J (kup z4 17 i b') := fun J b' hJ c1 c2 c3 => hJ _ ⟨b', kup_eq, c2, fun q => by have := m3 q; omega, fun q hq hb => by
            by_cases e : q = x
            · subst e; exact c3 hb
            · have := m4 q (by omega) hb; omega, fun p hp => by rw [kup_n (fun q => hp q.2)]; exact m5 p hp, fun c hc => by funext y; rw [kup_c hc, m6 c hc]⟩
        refine w_X10_has pb (by omega) (fun hb => ?_) (fun hb => ?_)
        · refine jn_i (fun J => ∀ z' : Hp, (∃ b : Nat, z' 17 i = (b : Nat) ∧ b ≤ hgt pr 30 i ∧ (cntB (ab i) n < j → b = hgt pr 30 i) ∧ (∀ q, q < x + 1 → (pr i).testBit q = true → B q + 1 ≤ b) ∧ (∀ p, p ≠ i → z' 17 p = z3 17 p) ∧ ∀ c, c ≠ 17 → z' c = z c) → J z') (fun z' q => lt_i (hW z' q)) (fun J hJ => w_t rg1 ?_)
          have xi : x ≠ i := fun e => by
            subst e
            have := ((hab x (by omega)).2 x).mpr (Rch.one hb)
            rw [hac x (by omega)] at this
            cases this
          have vx : z4 17 x = (B x : Nat) := by rw [m5 x xi]; exact (l1 x hx).1
          have lx := le_mxO (h := hgt pr 30) 30 (show x < 30 by omega) hb
          rw [hH i (by omega)] at lx
          have bx := (l1 x hx).2.1
          rw [m1, vx]
          refine ⟨ii, ix, ⟨by omega, by omega⟩, ⟨by omega, by omega⟩, ii, hp_i ?_⟩
          have e2 : (if (b : Int) < (B x : Int) + 1 then (B x : Int) + 1 else (b : Int)) = ((max b (B x + 1) : Nat) : Int) := by
            by_cases c : (b : Int) < (B x : Int) + 1
            · rw [if_pos c]; omega
            · rw [if_neg c]; omega
          rw [e2]
          exact go J _ hJ (by omega) (by omega) (fun _ => by omega)
        · refine jn_i (fun J => ∀ z' : Hp, (∃ b : Nat, z' 17 i = (b : Nat) ∧ b ≤ hgt pr 30 i ∧ (cntB (ab i) n < j → b = hgt pr 30 i) ∧ (∀ q, q < x + 1 → (pr i).testBit q = true → B q + 1 ≤ b) ∧ (∀ p, p ≠ i → z' 17 p = z3 17 p) ∧ ∀ c, c ≠ 17 → z' c = z c) → J z') (fun z' q => lt_i (hW z' q)) (fun J hJ => w_f rg0 ⟨ii, ii, hp_i ?_⟩)
          rw [m1]
          exact go J b hJ (Nat.le_refl _) m2 (fun q => by rw [hb] at q; cases q)
      · obtain ⟨b, m1, m2, m3, m4, m5, m6⟩ := hI
        have e1 : z4 1 0 = n := by rw [m6 1 (by decide)]; exact h0
        refine w_if2 ⟨by omega, by omega⟩ (by rw [e1]; constructor <;> omega) (fun _ => lt_i (hY z4 ⟨fup B i b, fun p hp => ?_, m6⟩)) (fun e => absurd e (by rw [e1]; omega))
        by_cases e : p = i
        · subst e
          rw [fup_eq]
          refine ⟨m1, m2, m3, fun _ hr => ?_⟩
          have : hgt pr 30 p ≤ b := by
            rw [← hH p (by omega)]
            refine mxO_le 30 (fun q hq hb => ?_)
            have rk := rank_lt hn hab hac (show p < 30 by omega) hb
            have := m4 q rk.1 hb
            rw [(l1 q rk.1).2.2.1 (by omega)] at this
            exact this
          omega
        · rw [fup_ne e, m5 p e]
          have := l1 p hp
          exact ⟨this.1, this.2.1, this.2.2.1, fun q r => this.2.2.2 (by omega) r⟩
    · obtain ⟨B, l1, l2⟩ := hI
      have e1 : z3 1 0 = n := by rw [l2 1 (by decide)]; exact h0
      exact w_if2 ⟨by omega, by omega⟩ (by rw [e1]; constructor <;> omega) (fun _ => lt_i (hX z3 ⟨B, fun p hp => ⟨(l1 p hp).1, (l1 p hp).2.1, (l1 p hp).2.2.2 hp⟩, l2⟩)) (fun e => absurd e (by rw [e1]; omega))
  · obtain ⟨A, j1, j2⟩ := hI
    have e1 : z2 1 0 = n := by rw [j2 1 (by decide)]; exact h0
    refine w_if2 ⟨by omega, by omega⟩ (by rw [e1]; constructor <;> omega) (fun _ => k1 nr z2 (fun p hp => ?_) j2) (fun e => absurd e (by rw [e1]; omega))
    rw [(j1 p hp).1, (j1 p hp).2.2 (rank_ub hab hac hp hn)]
