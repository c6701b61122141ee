theorem mxO_mono {h h' : Nat → Nat} {s : Nat} (e : ∀ q, q < 30 → h q ≤ h' q) : mxO h s 30 ≤ mxO h' s 30 := mxO_le 30 (fun q hq hs => by
  have h1 := e q hq
  have h2 := le_mxO (h := h') 30 hq hs
  omega)
theorem cntB_up (s : Nat) : ∀ d m, cntB s m ≤ cntB s (m + d)
  | 0, _ => Nat.le_refl _
  | d + 1, m => by
    have h1 := cntB_up s d m
    show cntB s m ≤ cntB s (m + d) + _
    omega
theorem hgt_uniq {n : Nat} {pr ab h : Nat → Nat} (hn : n ≤ 30) (ha : IsAb n pr ab) (hc : ∀ p, p < 30 → (ab p).testBit p = false) (e : ∀ p, p < 30 → h p = mxO h (pr p) 30) : ∀ r p, p < 30 → cntB (ab p) n ≤ r → h p = hgt pr 30 p
  | 0, p, hp, hr => by
    rw [e p hp, ← hgt_fix hn ha hc hp]
    exact mxO_cg 30 (fun q hq hb => by have := (rank_lt hn ha hc hp hb).2; omega)
  | r + 1, p, hp, hr => by
    rw [e p hp, ← hgt_fix hn ha hc hp]
    exact mxO_cg 30 (fun q hq hb => hgt_uniq hn ha hc e r q hq (by have := (rank_lt hn ha hc hp hb).2; omega))
def HasRing (ab : Nat → Nat) : Prop := ∃ p, p < 30 ∧ (ab p).testBit p = true
set_option maxHeartbeats 1000000 in
theorem w_X1_climb {t n : Nat} {pr : Nat → Nat} {z : Hp} {K : Hp → Prop} (hn : n ≤ 30) (hp : PaOk n pr) (h6 : Row z (t + 6) pr) (h10 : Row z (t + 10) (fun _ => 0)) (k : ∀ (z' : Hp) (ab : Nat → Nat), IsAb n pr ab → Row z' (t + 7) ab → ((HasRing ab ∧ z' t 12 = 1 ∧ Row z' (t + 10) (fun _ => 0)) ∨ (¬ HasRing ab ∧ z' t 12 = 0 ∧ Row z' (t + 10) (hgt pr 30))) → (∀ j, j ≠ 12 → z' t j = z t j) → (∀ c, c ≠ t → c ≠ t + 7 → c ≠ t + 10 → z' c = z c) → K z') : cal_X1_climb t z K := by
  unfold cal_X1_climb
  have s7 : Row (kcp z (t + 6) (t + 7) 0 0 30) (t + 7) pr := fun p hp => by
    unfold kcp
    rw [if_pos ⟨rfl, by omega, by omega⟩, Nat.sub_zero, Nat.zero_add]
    exact h6 p hp
  have f0 : ∀ c, c ≠ t + 7 → (kcp z (t + 6) (t + 7) 0 0 30) c = z c := fun c hc => by
    funext q
    unfold kcp
    rw [if_neg (fun r => hc r.1)]
  generalize kcp z (t + 6) (t + 7) 0 0 30 = z0 at *
  refine hp_i (lt_i ?_)
  refine LP1_for 30 (fun j z' => ∃ ab : Nat → Nat, Row z' (t + 7) ab ∧ (∀ p, p < 30 → ab p < 2 ^ n ∧ (∀ q, (pr p).testBit q = true → (ab p).testBit q = true) ∧ ∀ q, (ab p).testBit q = true → Rch pr p q) ∧ (∀ m, m < j → ∀ p, p < 30 → (ab p).testBit m = true → ∀ r, (ab m).testBit r = true → (ab p).testBit r = true) ∧ ∀ c, c ≠ t + 7 → z' c = z c) 0 rfl (by omega) ⟨pr, s7, fun p _ => ⟨(hp p).1, fun _ h => h, fun _ h => Rch.one h⟩, fun m hm => absurd hm (by omega), f0⟩ (fun X j z1 hj hI hX => ?_) (fun X z1 hI => ?_)
  · obtain ⟨ab, i7, hok, hcl, hfr⟩ := hI
    refine w_if ⟨by omega, by omega⟩ (fun e => absurd e (by omega)) (fun _ => lt_i ?_)
    refine LP1_for 30 (fun i z' => Row z' (t + 7) (fun p => if p < i ∧ (ab p).testBit j = true then ab p ||| ab j else ab p) ∧ ∀ c, c ≠ t + 7 → z' c = z c) 0 rfl (by omega) ⟨i7.cg (fun p => by rw [if_neg (by omega)]), hfr⟩ (fun Y i z2 hi hI hY => ?_) (fun Y z2 hI => ?_)
    · obtain ⟨i7, hfr⟩ := hI
      have vi : z2 (t + 7) i = (ab i : Nat) := by
        have h := i7 i hi
        dsimp only at h
        rw [if_neg (by omega)] at h
        exact h
      have vj : z2 (t + 7) j = (ab j : Nat) := by
        rw [i7 j hj]
        dsimp only
        by_cases c : j < i ∧ (ab j).testBit j = true
        · rw [if_pos c, Nat.or_self]
        · rw [if_neg c]
      have bi := p30 hn (hok i hi).1
      have bj := p30 hn (hok j hj).1
      refine w_if ⟨by omega, by omega⟩ (fun e => absurd e (by omega)) (fun _ => ⟨⟨by omega, by omega⟩, ?_⟩)
      rw [Int.toNat_natCast, vi]
      refine w_X1_has bi (by omega) (fun hb => w_t rg1 ⟨⟨by omega, by omega⟩, ⟨by omega, by omega⟩, ⟨by omega, by omega⟩, hp_i ?_⟩) (fun hb => w_f rg0 (hY z2 ⟨i7.cg (fun p => ?_), hfr⟩))
      · rw [Int.toNat_natCast, vj, ior_n (by omega) (by omega)]
        refine hY _ ⟨fun p hp => ?_, fun c hc => by funext q; rw [kup_c hc, hfr c hc]⟩
        by_cases e : p = i
        · subst e; rw [kup_eq]; dsimp only; rw [if_pos ⟨by omega, hb⟩]
        · rw [kup_n (fun q => e q.2), i7 p hp]
          dsimp only
          by_cases c : p < i ∧ (ab p).testBit j = true
          · rw [if_pos c, if_pos ⟨by omega, c.2⟩]
          · rw [if_neg c, if_neg (fun q => c ⟨by omega, q.2⟩)]
      · by_cases c : p < i ∧ (ab p).testBit j = true
        · rw [if_pos c, if_pos ⟨by omega, c.2⟩]
        · rw [if_neg c, if_neg (fun q => c ⟨Decidable.byContradiction fun h => by rw [show p = i by omega, hb] at q; exact absurd q.2 (by decide), q.2⟩)]
    · obtain ⟨i7, hfr⟩ := hI
      refine w_if ⟨by omega, by omega⟩ (fun _ => lt_i (hX z2 ⟨_, i7, fun p hp => ?_, fun m hm p hp hpm r hmr => ?_, hfr⟩)) (fun e => absurd e (by omega))
      · by_cases c : p < 30 ∧ (ab p).testBit j = true
        · simp only [if_pos c]
          refine ⟨Nat.or_lt_two_pow (hok p hp).1 (hok j hj).1, fun q hq => ?_, fun q hq => ?_⟩
          · rw [Nat.testBit_or, (hok p hp).2.1 q hq, Bool.true_or]
          · rw [Nat.testBit_or, Bool.or_eq_true] at hq
            rcases hq with hq | hq
            · exact (hok p hp).2.2 q hq
            · exact ((hok p hp).2.2 j c.2).tr ((hok j hj).2.2 q hq)
        · simp only [if_neg c]
          exact hok p hp
      · have hold : ∀ x, x < 30 → ∀ r, (if x < 30 ∧ (ab x).testBit j = true then ab x ||| ab j else ab x).testBit r = true ↔ (ab x).testBit r = true ∨ ((ab x).testBit j = true ∧ (ab j).testBit r = true) := fun x hx r => by
          by_cases c : x < 30 ∧ (ab x).testBit j = true
          · rw [if_pos c, Nat.testBit_or, Bool.or_eq_true]
            exact ⟨fun h => h.elim Or.inl (fun h => Or.inr ⟨c.2, h⟩), fun h => h.elim Or.inl (fun h => Or.inr h.2)⟩
          · rw [if_neg c]
            exact ⟨Or.inl, fun h => h.elim id (fun h => absurd ⟨hx, h.1⟩ c)⟩
        have hm30 : m < 30 := by omega
        have q1 := (hold p hp m).mp hpm
        have q2 := (hold m hm30 r).mp hmr
        refine (hold p hp r).mpr ?_
        by_cases e : m = j
        · subst e
          have pj : (ab p).testBit m = true := q1.elim id (fun h => h.1)
          have jr : (ab m).testBit r = true := q2.elim id (fun h => h.2)
          exact Or.inr ⟨pj, jr⟩
        · have hmj : m < j := by omega
          rcases q1 with q1 | ⟨q1, q1'⟩
          · rcases q2 with q2 | ⟨q2, q2'⟩
            · exact Or.inl (hcl m hmj p hp q1 r q2)
            · exact Or.inr ⟨hcl m hmj p hp q1 j q2, q2'⟩
          · rcases q2 with q2 | ⟨q2, q2'⟩
            · exact Or.inr ⟨q1, hcl m hmj j hj q1' r q2⟩
            · exact Or.inr ⟨q1, q2'⟩
  obtain ⟨ab, i7, hok, hcl, hfr⟩ := hI
  have hab : IsAb n pr ab := IsAb.of hn hp (fun p hp => (hok p hp).1) (fun p hp => (hok p hp).2.1) (fun p hp => (hok p hp).2.2) (fun p hp q hq r hr => hcl q (by have := tb_n (hok p hp).1 hq; omega) p hp hq r hr)
  refine w_if ⟨by omega, by omega⟩ (fun _ => ?_) (fun e => absurd e (by omega))
  refine w_X1_leastRing i7 (fun p hp => p30 hn (hok p hp).1) (fun v hv => ?_)
  have hvr := hv.rg (by omega)
  refine jn_i (fun J => ∀ z' : Hp, ((HasRing ab ∧ z' t 12 = 1) ∨ (¬ HasRing ab ∧ z' t 12 = 0)) → (∀ j, j ≠ 12 → z' t j = z t j) → (∀ c, c ≠ t → c ≠ t + 7 → z' c = z c) → Row z' (t + 7) ab → J z') (fun z2 hr hs hfr i7 => ?_) (fun J hJ => ⟨⟨by omega, by omega⟩, w_ite (fun e => hp_i (hJ _ (Or.inr ⟨fun ⟨p, hp, hq⟩ => ?_, kup_eq⟩) (fun j hj => ?_) (fun c hc h7 => ?_) (i7.off (by omega)))) (fun e => hp_i (hJ _ (Or.inl ⟨?_, kup_eq⟩) (fun j hj => ?_) (fun c hc h7 => ?_) (i7.off (by omega))))⟩)
  rotate_left
  · rcases hv with ⟨q, _, rfl, _⟩ | ⟨_, hno⟩
    · omega
    · exact hno p hp hq
  · rw [kup_n (fun q => hj q.2), hfr t (by omega)]
  · funext q; rw [kup_c hc, hfr c h7]
  · rcases hv with ⟨q, hq, rfl, hb, _⟩ | ⟨rfl, hno⟩
    · exact ⟨q, hq, hb⟩
    · omega
  · rw [kup_n (fun q => hj q.2), hfr t (by omega)]
  · funext q; rw [kup_c hc, hfr c h7]
  have i10 : Row z2 (t + 10) (fun _ => 0) := h10.to (hfr _ (by omega) (by omega))
  have i6 : Row z2 (t + 6) pr := h6.to (hfr _ (by omega) (by omega))
  refine jn_i (fun J => ∀ v : Int, ((HasRing ab ∧ v = 0) ∨ (¬ HasRing ab ∧ v = 1)) → J v) (fun v hv => ?_) (fun J hJ => ?_)
  rotate_left
  · rcases hr with ⟨h1, h2⟩ | ⟨h1, h2⟩
    · rw [h2]; exact w_t rg1 (lt_i (hJ _ (Or.inl ⟨h1, rfl⟩)))
    · rw [h2]; exact w_f rg0 (lt_i (hJ _ (Or.inr ⟨h1, rfl⟩)))
  refine lt_i ?_
  rcases hv with ⟨hring, rfl⟩ | ⟨hno, rfl⟩
  · have hr1 : z2 t 12 = 1 := hr.elim (fun h => h.2) (fun h => absurd hring h.1)
    intro X hX
    refine hX _ _ _ (w_if rg0 (fun e => absurd e (by omega)) (fun _ => w_f rg0 (k z2 ab hab i7 (Or.inl ⟨hring, hr1, i10⟩) hs (fun c hc h7 _ => hfr c hc h7))))
  · have hr0 : z2 t 12 = 0 := hr.elim (fun h => absurd h.1 hno) (fun h => h.2)
    have hac : ∀ p, p < 30 → (ab p).testBit p = false := fun p hp => by
      cases h : (ab p).testBit p with
      | true => exact absurd ⟨p, hp, h⟩ hno
      | false => rfl
    have fin : ∀ (z' : Hp) (h : Nat → Nat), Row z' (t + 10) h → (∀ p, p < 30 → h p = hgt pr 30 p) → (∀ c, c ≠ t + 10 → z' c = z2 c) → K z' := fun z' h hr hh hf => by
      refine k z' ab hab (i7.to (hf _ (by omega))) (Or.inr ⟨hno, by rw [hf t (by omega)]; exact hr0, fun p hp => by rw [hr p hp, hh p hp]⟩) (fun j hj => by rw [hf t (by omega)]; exact hs j hj) (fun c hc h7 h10 => by rw [hf c h10, hfr c hc h7])
    refine LP2_for 30 (fun j v z' => ∃ h : Nat → Nat, Row z' (t + 10) h ∧ (∀ p, p < 30 → h p ≤ hgt pr 30 p) ∧ (v = 0 ∨ v = 1) ∧ (∀ p, p < 30 → cntB (ab p) n < j → h p = hgt pr 30 p) ∧ (v = 0 → ∀ p, p < 30 → h p = hgt pr 30 p) ∧ ∀ c, c ≠ t + 10 → z' c = z2 c) 0 rfl (by omega) ⟨fun _ => 0, i10, fun _ _ => Nat.zero_le _, Or.inr rfl, fun p hp h => absurd h (by omega), fun h => absurd h (by decide), fun _ _ => rfl⟩ (fun X j v z3 hj hI hX => ?_) (fun X v z3 hI => ?_)
    · obtain ⟨h, i10, hb, hv, hrk, hz, hf⟩ := hI
      refine w_if ⟨by omega, by omega⟩ (fun e => absurd e (by omega)) (fun _ => ?_)
      rcases hv with rfl | rfl
      · exact w_f rg0 (fin z3 h i10 (hz rfl) hf)
      · refine w_t rg1 (lt_i (lt_i ?_))
        refine LP2_for 30 (fun i w z' => ∃ h' : Nat → Nat, Row z' (t + 10) h' ∧ (∀ p, p < 30 → h' p ≤ hgt pr 30 p) ∧ (w = 0 ∨ w = 1) ∧ (∀ p, p < 30 → cntB (ab p) n < j → h' p = hgt pr 30 p) ∧ (∀ p, p < i → cntB (ab p) n < j + 1 → h' p = hgt pr 30 p) ∧ (w = 0 → h' = h ∧ ∀ p, p < i → h p = mxO h (pr p) 30) ∧ ∀ c, c ≠ t + 10 → z' c = z2 c) 0 rfl (by omega) ⟨h, i10, hb, Or.inl rfl, hrk, fun p hp => absurd hp (by omega), fun _ => ⟨rfl, fun p hp => absurd hp (by omega)⟩, hf⟩ (fun Y i w z4 hi hI hY => ?_) (fun Y w z4 hI => ?_)
        · obtain ⟨h', i10, hb', hw, hrk', hrk2, hz', hf'⟩ := hI
          have i6' : Row z4 (t + 6) pr := i6.to (hf' _ (by omega))
          refine w_if ⟨by omega, by omega⟩ (fun e => absurd e (by omega)) (fun _ => ⟨⟨by omega, by omega⟩, ?_⟩)
          rw [Int.toNat_natCast, i10 i hi, i6' i hi]
          refine lt_i ⟨⟨by omega, by omega⟩, w_X1_generationOver i10 (p30 hn (hp i).1) (fun p hp => by have := hb' p hp; have := hgt_le pr 30 p; omega) ⟨⟨by omega, by omega⟩, hp_i ?_⟩⟩
          have hmx : mxO h' (pr i) 30 ≤ hgt pr 30 i := by
            rw [← hgt_fix hn hab hac hi]
            exact mxO_mono hb'
          have hm3 := hgt_le pr 30 i
          have rk : ∀ q, q < 30 → (pr i).testBit q = true → cntB (ab q) n < cntB (ab i) n := fun q _ hq => (rank_lt hn hab hac hi hq).2
          have hfx : cntB (ab i) n < j + 1 → mxO h' (pr i) 30 = hgt pr 30 i := fun hc => by
            rw [← hgt_fix hn hab hac hi]
            exact mxO_cg 30 (fun q hq hb => hrk' q hq (by have := rk q hq hb; omega))
          have hsub : ∀ w', (w' = 0 ∨ w' = 1) → (w' = 0 → w = 0 ∧ mxO h' (pr i) 30 = h' i) → Y w' (↑i + 1) (kup z4 (t + 10) i (mxO h' (pr i) 30 : Nat)) := fun w' hw' hw0 => by
            refine hY _ _ ⟨_, i10.up, fun p hp => ?_, hw', fun p hp hc => ?_, fun p hp hc => ?_, fun w0 => ?_, fun c hc => by funext q; rw [kup_c hc, hf' c hc]⟩
            · by_cases e : p = i
              · subst e; rw [fup_eq]; exact hmx
              · rw [fup_ne e]; exact hb' p hp
            · by_cases e : p = i
              · subst e; rw [fup_eq]; exact hfx (by omega)
              · rw [fup_ne e]; exact hrk' p hp hc
            · by_cases e : p = i
              · subst e; rw [fup_eq]; exact hfx hc
              · rw [fup_ne e]; exact hrk2 p (by omega) hc
            · obtain ⟨w1, w2⟩ := hw0 w0
              obtain ⟨c1, c2⟩ := hz' w1
              subst c1
              refine ⟨?_, fun p hp => ?_⟩
              · funext p
                by_cases e : p = i
                · subst e; rw [fup_eq]; exact w2
                · rw [fup_ne e]
              · by_cases e : p = i
                · subst e; exact w2.symm
                · exact c2 p (by omega)
          refine jn_i (fun J => ∀ w', (w' = 0 ∨ w' = 1) → (w' = 0 → w = 0 ∧ mxO h' (pr i) 30 = h' i) → J w') (fun w' h1 h2 => lt_i (hsub w' h1 h2)) (fun J hJ => ?_)
          refine jn_i (fun (J' : Prop) => J') (lt_i (hJ 1 (Or.inr rfl) (fun q => absurd q (by decide)))) (fun J' hJ' => ?_)
          rcases hw with rfl | rfl
          · refine w_f rg0 ⟨⟨by omega, by omega⟩, ?_⟩
            rw [kup_eq]
            refine ⟨⟨by omega, by omega⟩, ⟨by omega, by have := hb' i hi; omega⟩, w_ite (fun e => lt_i (hJ 0 (Or.inl rfl) (fun _ => ⟨rfl, by omega⟩))) (fun _ => hJ')⟩
          · exact w_t rg1 hJ'
        · obtain ⟨h', i10, hb', hw, hrk', hrk2, hz', hf'⟩ := hI
          refine w_if ⟨by omega, by omega⟩ (fun _ => lt_i (hX _ _ ⟨h', i10, hb', hw, fun p hp hc => hrk2 p hp hc, fun w0 => ?_, hf'⟩)) (fun e => absurd e (by omega))
          obtain ⟨c1, c2⟩ := hz' w0
          subst c1
          exact fun p hp => hgt_uniq hn hab hac c2 _ p hp (Nat.le_refl _)
    · obtain ⟨h, i10, hb, hv, hrk, hz, hf⟩ := hI
      refine w_if ⟨by omega, by omega⟩ (fun _ => fin z3 h i10 (fun p hp => hrk p hp ?_) hf) (fun e => absurd e (by omega))
      have h1 := cntB_ub' (hac p hp) 30 hp
      have h2 := cntB_up (ab p) (30 - n) n
      rw [show n + (30 - n) = 30 by omega] at h2
      omega
