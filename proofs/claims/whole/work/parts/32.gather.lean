/-! the class's folk, all of it -/
def ZeroTo (z : Hp) (t j : Nat) : Prop := ∀ p, p < j → z (t + 1) p = p ∧ z (t + 2) p = 0 ∧ z (t + 3) p = 0 ∧ z (t + 4) p = 0 ∧ z (t + 5) p = 0 ∧ z (t + 6) p = 0 ∧ z (t + 8) p = 0 ∧ z (t + 9) p = 0 ∧ z (t + 10) p = 0
theorem w_X1_wipe {t : Nat} {z : Hp} {K : Hp → Prop} (k : ∀ z' : Hp, ZeroTo z' t 30 → z' t 1 = 0 → (∀ j, j ≠ 1 → z' t j = z t j) → (∀ c, c < t ∨ t + 10 < c → z' c = z c) → K z') : cal_X1_wipe t z K := by
  unfold cal_X1_wipe
  refine hp_i (lt_i ?_)
  refine LP1_for 30 (fun j z' => ZeroTo z' t j ∧ z' t 1 = 0 ∧ (∀ j, j ≠ 1 → z' t j = z t j) ∧ (∀ c, c < t ∨ t + 10 < c → z' c = z c)) 0 rfl (by omega) ⟨fun p hp => absurd hp (by omega), kup_eq, fun j hj => kup_n (fun q => hj q.2), fun c hc => by funext q; exact kup_c (by omega)⟩ (fun X j z1 hj hI hX => ?_) (fun X z1 hI => ?_)
  · refine w_if ⟨by omega, by omega⟩ (fun e => absurd e (by omega)) (fun _ => ?_)
    have ib : inb (j : Int) 30 := ⟨by omega, by omega⟩
    refine ⟨ib, hp_i ⟨ib, hp_i ⟨ib, hp_i ⟨ib, hp_i ⟨ib, hp_i ⟨ib, hp_i ⟨ib, hp_i ⟨ib, hp_i ⟨ib, hp_i (hX _ ?_)⟩⟩⟩⟩⟩⟩⟩⟩⟩
    obtain ⟨h0, h1, h2, h3⟩ := hI
    refine ⟨fun p hp => ?_, by simp [kup]; exact h1, fun i hi => by simp [kup]; exact h2 i hi, fun c hc => ?_⟩
    · by_cases e : p = j
      · subst e; simp [kup]
      · have := h0 p (by omega)
        simp [kup, e]
        exact this
    · funext q
      have c1 : c ≠ t + 1 := by omega
      have c2 : c ≠ t + 2 := by omega
      have c3 : c ≠ t + 3 := by omega
      have c4 : c ≠ t + 4 := by omega
      have c5 : c ≠ t + 5 := by omega
      have c6 : c ≠ t + 6 := by omega
      have c8 : c ≠ t + 8 := by omega
      have c9 : c ≠ t + 9 := by omega
      have c10 : c ≠ t + 10 := by omega
      simp only [kup, c1, c2, c3, c4, c5, c6, c8, c9, c10, false_and, if_false]
      rw [h3 c hc]
  · exact w_if ⟨by omega, by omega⟩ (fun _ => k z1 hI.1 hI.2.1 hI.2.2.1 hI.2.2.2) (fun e => absurd e (by omega))
def allK (g : Nat → Nat) : Nat → Nat
  | 0 => 0
  | k + 1 => allK g k ||| 2 ^ g k
def szK (g : Nat → Nat) : Nat → Nat → Nat
  | 0 => fun _ => 0
  | k + 1 => fup (szK g k) (g k) (szK g k (g k) + 1)
def sxK (S : Nat → Int) (g : Nat → Nat) : Nat → Nat → Nat
  | 0 => fun _ => 0
  | k + 1 => fup (sxK S g k) (g k) (sxK S g k (g k) ||| (pX S k).toNat)
theorem allK_lt {g : Nat → Nat} (h : ∀ p, p < 30 → g p < 30) : ∀ k, k ≤ 30 → allK g k < 1073741824
  | 0, _ => (by decide : 0 < 1073741824)
  | k + 1, hk => or_lt (allK_lt h k (by omega)) (pow_lt30 (h k (by omega)))
theorem szK_le (g : Nat → Nat) : ∀ k p, szK g k p ≤ k
  | 0, _ => Nat.le_refl _
  | k + 1, p => by
    show fup (szK g k) (g k) (szK g k (g k) + 1) p ≤ k + 1
    have h1 := szK_le g k p
    have h2 := szK_le g k (g k)
    by_cases e : p = g k
    · rw [e, fup_eq]; omega
    · rw [fup_ne e]; omega
theorem sxK_lt {S : Nat → Int} {g : Nat → Nat} : ∀ k, (∀ p, p < k → 0 ≤ pX S p ∧ pX S p ≤ 2) → ∀ p, sxK S g k p < 4
  | 0, _, _ => (by decide : 0 < 4)
  | k + 1, h, p => by
    have ih := sxK_lt (g := g) k (fun p hp => h p (by omega))
    show fup (sxK S g k) (g k) (sxK S g k (g k) ||| (pX S k).toNat) p < 4
    by_cases e : p = g k
    · rw [e, fup_eq]
      refine Nat.or_lt_two_pow (n := 2) (ih _) ?_
      have := h k (by omega)
      omega
    · rw [fup_ne e]; exact ih p
/-- the folk at f is what the statements l of S say -/
def FolkIs (z : Hp) (f : Nat) (S : Nat → Int) (l : List Nat) (ab : Nat → Nat) : Prop :=
  IsAb (sN S) (fun p => paL S (gL S l) 2 l p ||| paL S (gL S l) 3 l p) ab ∧ z f 0 = (cntB (allK (gL S l) (sN S)) 30 : Nat) ∧ z f 1 = (allK (gL S l) (sN S) : Nat) ∧ Row z (f + 1) (gL S l) ∧ Row z (f + 2) (szK (gL S l) (sN S)) ∧ Hst z f S (gL S l) (sxK S (gL S l) (sN S)) l ∧ Row z (f + 7) ab ∧ ((HasRing ab ∧ z f 12 = 1) ∨ (¬ HasRing ab ∧ z f 12 = 0 ∧ Row z (f + 10) (hgt (fun p => paL S (gL S l) 2 l p ||| paL S (gL S l) 3 l p) 30)))
set_option maxHeartbeats 1000000 in
theorem w_X1_gather {t r1 r2 m : Nat} {S : Nat → Int} {l : List Nat} {z : Hp} {K : Hp → Prop} (hd : r1 + 40 ≤ r2 ∧ r2 < t) (hl : LsOk S m l) (hb : BkSt z r1 S m) (h0 : z r1 0 = S 0) (hpx : ∀ p, p < sN S → z (r1 + 33) p = pX S p ∧ 0 ≤ pX S p ∧ pX S p ≤ 2) (hs : Said z r2 l) (k : ∀ (z' : Hp) (ab : Nat → Nat), FolkIs z' t S l ab → (∀ c, c < t ∨ t + 10 < c → z' c = z c) → K z') : cal_X1_gather t r1 r2 l.length z K := by
  have hll := hl.1
  have hmm := hl.2.1
  obtain ⟨hn0, hn⟩ := hl.2.2.1
  have hgg : gGood (sN S) (gL S l) := by have := gL_good' hl l.length; rwa [List.take_length] at this
  have hg30 : ∀ p, p < 30 → gL S l p < 30 := fun p hp => by have := hgg.1 p; omega
  refine w_X1_wipe (fun z1 hz hz1 _ hf => ?_)
  refine w_X1_joinSames (m := m) (S := S) hd hl (hb.to (fun c hc => hf c (by omega))) (by rw [hf r1 (by omega)]; exact h0) (fun j hj => by rw [hf r2 (by omega)]; exact hs j hj) (fun p hp => (hz p hp).1) (fun z2 hg2 hf2 => lt_i ?_)
  have y : ∀ c, c ≠ t + 1 → z2 c = z1 c := hf2
  refine LP1_for (sN S) (fun j z' => z' t 1 = (allK (gL S l) j : Nat) ∧ Row z' (t + 2) (szK (gL S l) j) ∧ Row z' (t + 3) (sxK S (gL S l) j) ∧ ∀ c, c ≠ t → c ≠ t + 2 → c ≠ t + 3 → z' c = z2 c) 0 rfl (by omega) ⟨by rw [y t (by omega)]; exact hz1, fun p hp => by rw [y _ (by omega)]; exact (hz p hp).2.1, fun p hp => by rw [y _ (by omega)]; exact (hz p hp).2.2.1, fun _ _ _ _ => rfl⟩ (fun X j z3 hj hI hX => ?_) (fun X z3 hI => ?_)
  · obtain ⟨i1, i2, i3, i4⟩ := hI
    have e0 : z3 r1 = z r1 := by rw [i4 r1 (by omega) (by omega) (by omega), y r1 (by omega), hf r1 (by omega)]
    have hg3 : Row z3 (t + 1) (gL S l) := fun p hp => by rw [i4 _ (by omega) (by omega) (by omega)]; exact hg2 p hp
    have gj := hg30 j (by omega)
    have al := allK_lt hg30 j (by omega)
    have sl := szK_le (gL S l) j (gL S l j)
    have xl := sxK_lt (S := S) (g := gL S l) j (fun p hp => (hpx p (by omega)).2) (gL S l j)
    refine w_if2 ⟨by omega, by omega⟩ (by rw [e0, h0]; constructor <;> omega) (fun e => absurd e (by rw [e0, h0]; omega)) (fun _ => ⟨⟨by omega, by omega⟩, ?_⟩)
    rw [Int.toNat_natCast, hg3 j (by omega)]
    refine lt_i (hp_i ⟨⟨by omega, by omega⟩, ⟨by omega, by omega⟩, hp_i ⟨⟨by omega, by omega⟩, ⟨by omega, by omega⟩, ⟨by omega, by omega⟩, hp_i (hX _ ?_)⟩⟩)
    rw [Int.toNat_natCast, i1, ior_shl al gj]
    obtain ⟨x1, x2, x3⟩ := hpx j hj
    generalize hga : gL S l j = a at *
    have v2 : kup z3 t 1 ((allK (gL S l) j ||| 2 ^ a : Nat) : Int) (t + 2) a = (szK (gL S l) j a : Nat) := by rw [kup_c (by omega)]; exact i2 a gj
    rw [v2]
    have v3 : kup (kup z3 t 1 ((allK (gL S l) j ||| 2 ^ a : Nat) : Int)) (t + 2) a ((szK (gL S l) j a : Nat) + 1) (t + 3) a = (sxK S (gL S l) j a : Nat) := by rw [kup_c (by omega), kup_c (by omega)]; exact i3 a gj
    rw [v3]
    have v4 : kup (kup z3 t 1 ((allK (gL S l) j ||| 2 ^ a : Nat) : Int)) (t + 2) a ((szK (gL S l) j a : Nat) + 1) (r1 + 33) j = ((pX S j).toNat : Nat) := by
      rw [kup_c (by omega), kup_c (by omega), i4 _ (by omega) (by omega) (by omega), y _ (by omega), hf _ (by omega), x1]; omega
    rw [v4, ior_n (by omega) (by omega)]
    refine ⟨?_, fun p hp => ?_, fun p hp => ?_, fun c h1 h2 h3 => ?_⟩
    · rw [kup_c (by omega), kup_c (by omega), kup_eq, allK, hga]
    · rw [kup_c (by omega), szK, hga]
      by_cases e : p = a
      · subst e; rw [kup_eq, fup_eq]; rfl
      · rw [kup_n (fun q => e q.2), kup_c (by omega), fup_ne e]; exact i2 p hp
    · rw [sxK, hga]
      by_cases e : p = a
      · subst e; rw [kup_eq, fup_eq]
      · rw [kup_n (fun q => e q.2), kup_c (by omega), kup_c (by omega), fup_ne e]; exact i3 p hp
    · funext q; rw [kup_c h3, kup_c h2, kup_c h1, i4 c h1 h2 h3]
  · obtain ⟨i1, i2, i3, i4⟩ := hI
    have e0 : z3 r1 = z r1 := by rw [i4 r1 (by omega) (by omega) (by omega), y r1 (by omega), hf r1 (by omega)]
    have al := allK_lt hg30 (sN S) hn
    refine w_if2 ⟨by omega, by omega⟩ (by rw [e0, h0]; constructor <;> omega) (fun _ => ?_) (fun e => absurd e (by rw [e0, h0]; omega))
    rw [i1]
    refine w_bitCount al (hp_i (lt_i ?_))
    have zr : ∀ c, t + 4 ≤ c → z3 c = z1 c := fun c hc => by rw [i4 c (by omega) (by omega) (by omega), y c (by omega)]
    refine LP1_for l.length (fun j z' => Hst z' t S (gL S l) (sxK S (gL S l) (sN S)) (l.take j) ∧ z' t 0 = (cntB (allK (gL S l) (sN S)) 30 : Nat) ∧ z' t 1 = (allK (gL S l) (sN S) : Nat) ∧ (∀ c, c ≠ t → c ≠ t + 3 → c ≠ t + 4 → c ≠ t + 5 → c ≠ t + 6 → c ≠ t + 8 → c ≠ t + 9 → z' c = z3 c)) 0 rfl (by omega) ⟨⟨?_, ?_, ?_, ?_, ?_, ?_⟩, kup_eq, by rw [kup_n (fun q => absurd q.2 (by decide))]; exact i1, fun c h _ _ _ _ _ _ => by funext q; exact kup_c h⟩ (fun X j z4 hj hI hX => ?_) (fun X z4 hI => ?_)
    · exact Row.off i3 (by omega)
    · exact fun p hp => by rw [kup_c (by omega), zr _ (by omega)]; exact (hz p hp).2.2.2.1
    · exact fun p hp => by rw [kup_c (by omega), zr _ (by omega)]; exact (hz p hp).2.2.2.2.1
    · exact fun p hp => by
        rw [kup_c (by omega), zr _ (by omega)]
        show z1 (t + 6) p = ((0 ||| 0 : Nat) : Int)
        rw [Nat.or_zero]
        exact (hz p hp).2.2.2.2.2.1
    · exact fun p hp => by rw [kup_c (by omega), zr _ (by omega)]; exact (hz p hp).2.2.2.2.2.2.1
    · exact fun p hp => by rw [kup_c (by omega), zr _ (by omega)]; exact (hz p hp).2.2.2.2.2.2.2.1
    · obtain ⟨j1, j2, j3, j4⟩ := hI
      obtain ⟨hτ, ho⟩ := hl.2.2.2 _ (getD_mem hj)
      refine w_if2 ⟨by omega, by omega⟩ ⟨by omega, by omega⟩ (fun e => absurd e (by omega)) (fun _ => ⟨⟨by omega, by omega⟩, ?_⟩)
      have es : z4 r2 j = ((l.getD j 0 : Nat) : Int) := by
        rw [j4 r2 (by omega) (by omega) (by omega) (by omega) (by omega) (by omega) (by omega), i4 r2 (by omega) (by omega) (by omega), y r2 (by omega), hf r2 (by omega)]
        exact hs j hj
      rw [Int.toNat_natCast, es]
      refine w_X1_hear (m := m) (n := sN S) (S := S) (g := gL S l) (sx := sxK S (gL S l) (sN S)) (l := l.take j) (by omega) hmm hn (hb.to (fun c hc => by rw [j4 c (by omega) (by omega) (by omega) (by omega) (by omega) (by omega) (by omega), i4 c (by omega) (by omega) (by omega), y c (by omega), hf c (by omega)])) hτ ho (fun x hx => (hl.2.2.2 x (List.mem_of_mem_take hx)).2) (fun p hp => by rw [j4 _ (by omega) (by omega) (by omega) (by omega) (by omega) (by omega) (by omega), i4 _ (by omega) (by omega) (by omega)]; exact hg2 p hp) hgg (sxK_lt _ (fun p hp => (hpx p hp).2)) j1 (fun z5 q1 q2 => hX z5 ⟨by rw [take_snoc hj]; exact q1, by rw [q2 t (by omega) (by omega) (by omega) (by omega) (by omega) (by omega)]; exact j2, by rw [q2 t (by omega) (by omega) (by omega) (by omega) (by omega) (by omega)]; exact j3, fun c h0 h3 h4 h5 h6 h8 h9 => by rw [q2 c h3 h4 h5 h6 h8 h9, j4 c h0 h3 h4 h5 h6 h8 h9]⟩)
    · obtain ⟨j1, j2, j3, j4⟩ := hI
      rw [List.take_length] at j1
      refine w_if2 ⟨by omega, by omega⟩ ⟨by omega, by omega⟩ (fun _ => ?_) (fun e => absurd e (by omega))
      have hpk : PaOk (sN S) (fun p => paL S (gL S l) 2 l p ||| paL S (gL S l) 3 l p) := fun p => by
        have a2 := paL_ok (S := S) (s := 2) (Or.inl rfl) hgg l (fun t ht => (hl.2.2.2 t ht).2) p
        have a3 := paL_ok (S := S) (s := 3) (Or.inr rfl) hgg l (fun t ht => (hl.2.2.2 t ht).2) p
        exact ⟨Nat.or_lt_two_pow a2.1 a3.1, fun q => by dsimp only; rw [a2.2 q, a3.2 q]; rfl⟩
      refine w_X1_climb (t := t) hn hpk j1.2.2.2.1 (fun p hp => by rw [j4 _ (by omega) (by omega) (by omega) (by omega) (by omega) (by omega) (by omega), zr _ (by omega)]; exact (hz p hp).2.2.2.2.2.2.2.2) (fun z5 ab hab h7 hr hs0 hfr => k z5 ab ⟨hab, by rw [hs0 0 (by decide)]; exact j2, by rw [hs0 1 (by decide)]; exact j3, fun p hp => ?_, fun p hp => ?_, ?_, h7, ?_⟩ (fun c hc => ?_))
      · rw [hfr _ (by omega) (by omega) (by omega), j4 _ (by omega) (by omega) (by omega) (by omega) (by omega) (by omega) (by omega), i4 _ (by omega) (by omega) (by omega)]; exact hg2 p hp
      · rw [hfr _ (by omega) (by omega) (by omega), j4 _ (by omega) (by omega) (by omega) (by omega) (by omega) (by omega) (by omega)]; exact i2 p hp
      · exact ⟨j1.1.to (hfr _ (by omega) (by omega) (by omega)), j1.2.1.to (hfr _ (by omega) (by omega) (by omega)), j1.2.2.1.to (hfr _ (by omega) (by omega) (by omega)), j1.2.2.2.1.to (hfr _ (by omega) (by omega) (by omega)), j1.2.2.2.2.1.to (hfr _ (by omega) (by omega) (by omega)), j1.2.2.2.2.2.to (hfr _ (by omega) (by omega) (by omega))⟩
      · rcases hr with ⟨a1, a2, _⟩ | ⟨a1, a2, a3⟩
        · exact Or.inl ⟨a1, a2⟩
        · exact Or.inr ⟨a1, a2, a3⟩
      · rw [hfr c (by omega) (by omega) (by omega), j4 c (by omega) (by omega) (by omega) (by omega) (by omega) (by omega) (by omega), i4 c (by omega) (by omega) (by omega), y c (by omega), hf c hc]
