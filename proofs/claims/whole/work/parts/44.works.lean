theorem w_X10_works {z : Hp} {K : Hp → Prop} {M : Nat} {S : Nat → Int} (hM : M ≤ 61) (hS : z 1 = S) (h : SOk M S) (h4 : ∀ t, t < sT S → fS S t = 4 → t < 60) (k : ∀ z' : Hp, RefW z' S → (∀ j, j ≠ 17 → j ≠ 18 → j ≠ 19 → j ≠ 20 → j ≠ 21 → z' 0 j = z 0 j) → (∀ c, c ≠ 0 → (c < 6 ∨ 12 < c) → z' c = z c) → K z') : cal_X10_works z K := by
  have hgg := gOf_good h
  have hn := h.n.2
  refine w_X10_joins hM (by rw [hS]; exact h) (fun z1 g1 f1 => w_X10_parents hM (S := S) (by rw [f1 1 (by decide), hS]) h (fun p hp => by rw [g1 p hp, hS]) (fun z2 ab r7 r8 r9 hab f2 => hp_i (hp_i (hp_i (lt_i ?_)))))
  have r6 : Row z2 6 (gOf S) := fun p hp => by rw [f2 6 (by decide) (by decide) (by decide), g1 p hp, hS]
  have e20 : z2 0 = z 0 := by rw [f2 0 (by decide) (by decide) (by decide), f1 0 (by decide)]
  have ec : ∀ c, c ≠ 0 → (c < 6 ∨ 12 < c) → z2 c = z c := fun c _ q => by rw [f2 c (by omega) (by omega) (by omega), f1 c (by omega)]
  refine LP1_for 240 (fun j z' => (∀ e, e < j → z' 10 e = rE rSt0 e ∧ z' 11 e = -5 ∧ z' 12 e = -5) ∧ (z' 0 17 = 0 ∧ z' 0 18 = -5 ∧ z' 0 19 = 0) ∧ (∀ j, j ≠ 17 → j ≠ 18 → j ≠ 19 → z' 0 j = z 0 j) ∧ ∀ c, c ≠ 0 → c ≠ 10 → c ≠ 11 → c ≠ 12 → z' c = z2 c) 0 rfl (by omega) ⟨fun e he => absurd he (by omega), ⟨by rw [kup_n (by decide), kup_n (by decide), kup_eq], by rw [kup_n (by decide), kup_eq], kup_eq⟩, fun j a b c => by rw [kup_n (fun q => c q.2), kup_n (fun q => b q.2), kup_n (fun q => a q.2), e20], fun c c0 _ _ _ => by funext q; rw [kup_c c0, kup_c c0, kup_c c0]⟩ (fun X j z3 hj hI hX => ?_) (fun X z3 hI => ?_)
  · obtain ⟨i1, i2, i3, i4⟩ := hI
    have ib : inb (j : Int) 240 := ⟨by omega, by omega⟩
    refine w_if ⟨by omega, by omega⟩ (fun e => absurd e (by omega)) (fun _ => ⟨⟨by omega, by omega⟩, ?_⟩)
    rw [Int.toNat_natCast]
    refine jn_i (fun J => J (kup z3 10 j (rE rSt0 j))) ⟨ib, hp_i ⟨ib, hp_i (lt_i (hX _ ⟨fun e he => ?_, ?_, fun j a b c => ?_, fun c c0 c1 c2 c3 => ?_⟩))⟩⟩ (fun J hJ => ⟨⟨by omega, by omega⟩, w_ite (fun q => ⟨ib, hp_i ?_⟩) (fun q => ⟨ib, hp_i ?_⟩)⟩)
    · by_cases g : e = j
      · subst g; exact ⟨by rw [kup_c (by decide), kup_c (by decide), kup_eq], by rw [kup_c (by decide), kup_eq], kup_eq⟩
      · have := i1 e (by omega)
        exact ⟨by rw [kup_c (by decide), kup_c (by decide), kup_n (fun q => g q.2)]; exact this.1, by rw [kup_c (by decide), kup_n (fun q => g q.2), kup_c (by decide)]; exact this.2.1, by rw [kup_n (fun q => g q.2), kup_c (by decide), kup_c (by decide)]; exact this.2.2⟩
    · rw [kup_c (by decide), kup_c (by decide), kup_c (by decide), kup_c (by decide), kup_c (by decide), kup_c (by decide), kup_c (by decide), kup_c (by decide), kup_c (by decide)]; exact i2
    · rw [kup_c (by decide), kup_c (by decide), kup_c (by decide)]; exact i3 j a b c
    · funext q; rw [kup_c c3, kup_c c2, kup_c c1, i4 c c0 c1 c2 c3]
    · have : rE rSt0 j = 0 := if_pos (by omega)
      rw [this] at hJ; exact hJ
    · have : rE rSt0 j = 3000 := if_neg (by omega)
      rw [this] at hJ; exact hJ
  obtain ⟨i1, ⟨i17, i18, i19⟩, i3, i4⟩ := hI
  refine w_if ⟨by omega, by omega⟩ (fun _ => ?_) (fun e => absurd e (by omega))
  have c4 : ∀ c, c ≠ 0 → c ≠ 10 → c ≠ 11 → c ≠ 12 → z3 c = z2 c := i4
  have q1 : z3 1 = S := by rw [i4 1 (by decide) (by decide) (by decide) (by decide), ec 1 (by decide) (by decide), hS]
  have q6 := r6.to (i4 6 (by decide) (by decide) (by decide) (by decide))
  have q7 := r7.to (i4 7 (by decide) (by decide) (by decide) (by decide))
  have q8 := r8.to (i4 8 (by decide) (by decide) (by decide) (by decide))
  have q9 := r9.to (i4 9 (by decide) (by decide) (by decide) (by decide))
  refine w_X10_looks h q1 q6 q7 q8 q9 (fun p hp => by have := hgg.1 p; omega) (fun p _ => p30 hn (moOf_ok h p).1) (fun p _ => p30 hn (faOf_ok h p).1) (fun p hp => p30 hn (hab p hp).1) i17 i18 (fun z4 lk lf => ?_)
  have bd := LkS.bd lk (by decide) (fun _ _ r => LkS.bd r (by decide) (fun _ _ r => LkS.bd r (by decide) (fun _ _ r => r.elim)))
  have w19 : z4 0 19 = 0 := by rw [lf.1 19 (by decide) (by decide)]; exact i19
  have fc : ∀ c, c ≠ 0 → (c < 6 ∨ 12 < c) → z4 c = z c := fun c c0 q => by rw [lf.2 c c0, i4 c c0 (by omega) (by omega) (by omega), ec c c0 q]
  refine w_if ⟨by omega, by omega⟩ (fun e => hp_i ?_) (fun e => k z4 ⟨ab, _, _, q6.to (lf.2 6 (by decide)), q7.to (lf.2 7 (by decide)), q8.to (lf.2 8 (by decide)), q9.to (lf.2 9 (by decide)), hab, lk, Or.inl ⟨e, fun x hx => by rw [lf.2 10 (by decide), lf.2 11 (by decide), lf.2 12 (by decide)]; exact i1 x hx, rfl, rfl, w19⟩⟩ (fun j a b c _ _ => by rw [lf.1 j a b, i3 j a b c]) fc)
  have hz : (z4 0 18) = -5 := by have := lk; rw [e] at this; exact (LkS.cl0 (by decide) this).1
  refine w_ref_rounds (s := rSt0) (F := 1000000) hM h h4 (by rw [← hS, ← fc 1 (by decide) (by decide)]; funext i; exact kup_c (by decide)) ((q6.to (lf.2 6 (by decide))).off (by decide)) ⟨fun x hx => ?_, ?_, ?_, kup_eq⟩ rSt0_RB rfl rfl (by rw [kup_n (by decide)]; exact w19) rSt0_wid (fun z5 a1 a2 a3 a4 => k z5 ⟨ab, 0, z4 0 18, ((q6.to (lf.2 6 (by decide))).off (by decide)).to (a4.2 6 (by decide) (by decide) (by decide) (by decide)), ((q7.to (lf.2 7 (by decide))).off (by decide)).to (a4.2 7 (by decide) (by decide) (by decide) (by decide)), ((q8.to (lf.2 8 (by decide))).off (by decide)).to (a4.2 8 (by decide) (by decide) (by decide) (by decide)), ((q9.to (lf.2 9 (by decide))).off (by decide)).to (a4.2 9 (by decide) (by decide) (by decide) (by decide)), hab, by rw [← e]; exact lk, Or.inr ⟨rfl, a1, a3⟩⟩ (fun j a b c d f => by rw [a4.1 j a b c d f, kup_n (fun q => f q.2), lf.1 j a b, i3 j a b c]) (fun c c0 q => by rw [a4.2 c c0 (by omega) (by omega) (by omega)]; funext i; rw [kup_c c0, fc c c0 q]))
  · rw [kup_c (by decide), kup_c (by decide), kup_c (by decide), lf.2 10 (by decide), lf.2 11 (by decide), lf.2 12 (by decide)]; exact i1 x hx
  · rw [kup_n (by decide)]; exact e
  · rw [kup_n (by decide)]; exact hz
