/-! a person comes -/
theorem w_addPerson {n N : Nat} {a : Int} {z : Hp} {K : Hp → Prop} (h0 : z 1 0 = N) (hN : N < 30) (hn : z 81 1 = n) (hn7 : n ≤ 7) (hT : ∀ i, i < n → by8 (z 82 i)) (k : ∀ z' : Hp, z' 1 0 = (N : Int) + 1 → (∀ j, j ≠ 0 → z' 1 j = z 1 j) → (∀ i, i < n → z' (3 + N) i = z 82 i) → (∀ i, n ≤ i → z' (3 + N) i = z (3 + N) i) → (z' 33 N = n ∧ ∀ p, p ≠ N → z' 33 p = z 33 p) → (z' 34 N = a ∧ ∀ p, p ≠ N → z' 34 p = z 34 p) → (∀ c, c ≠ 1 → c ≠ 3 + N → c ≠ 33 → c ≠ 34 → z' c = z c) → K z') : cal_X0_addPerson 1 81 a z K := by
  refine lt_i (LP1_for n (fun j z' => (∀ i, i < j → z' (3 + N) i = z 82 i) ∧ (∀ i, j ≤ i → z' (3 + N) i = z (3 + N) i) ∧ ∀ c, c ≠ 3 + N → z' c = z c) 0 rfl (by omega) ⟨fun i hi => absurd hi (by omega), fun _ _ => rfl, fun _ _ => rfl⟩ (fun X j z1 hj hI hX => ?_) (fun X z1 hI => ?_))
  · obtain ⟨i1, i2, i3⟩ := hI
    refine jn_i (fun _ => True) trivial (fun J _ => ?_)
    have e1 : z1 1 0 = N := by rw [i3 1 (by omega)]; exact h0
    rw [i3 81 (by omega), hn, e1]
    refine w_if2 ⟨by omega, by omega⟩ ⟨by omega, by omega⟩ (fun e => absurd e (by omega)) (fun _ => ?_)
    refine w_if ⟨by omega, by omega⟩ (fun e => absurd e (by omega)) (fun _ => ?_)
    have e2 : z1 (81 + 1) = z 82 := i3 82 (by omega)
    rw [e2]
    refine ⟨⟨by omega, by omega⟩, ⟨by omega, by rw [klT81]; omega⟩, ?_, ⟨by omega, by omega⟩, hp_i (lt_i (hX _ ⟨fun i hi => ?_, fun i hi => ?_, fun c hc => ?_⟩))⟩
    · rw [Int.toNat_natCast]; exact hT j hj
    · rw [Int.toNat_natCast, Int.toNat_natCast, show 1 + 1 + 1 + N = 3 + N by omega]
      by_cases g : i = j
      · subst g; rw [kup_eq]
      · rw [kup_n (fun q => g q.2)]; exact i1 i (by omega)
    · rw [Int.toNat_natCast, Int.toNat_natCast, show 1 + 1 + 1 + N = 3 + N by omega, kup_n (fun q => by omega)]
      exact i2 i (by omega)
    · rw [Int.toNat_natCast, Int.toNat_natCast, show 1 + 1 + 1 + N = 3 + N by omega, ← i3 c hc]
      funext i; exact kup_c hc
  · obtain ⟨i1, i2, i3⟩ := hI
    have e1 : z1 1 0 = N := by rw [i3 1 (by omega)]; exact h0
    have e2 : z1 81 1 = n := by rw [i3 81 (by omega)]; exact hn
    refine jn_i (fun J => J z1) ?_ (fun J hJ => ?_)
    · refine ⟨⟨by omega, by omega⟩, hp_i ⟨⟨?_, ?_⟩, hp_i (hp_i (k _ ?_ (fun j hj => ?_) (fun i hi => ?_) (fun i hi => ?_) ⟨?_, fun p hp => ?_⟩ ⟨?_, fun p hp => ?_⟩ (fun c c1 c2 c3 c4 => ?_)))⟩⟩
      · rw [kup_c (by omega)]; omega
      · rw [kup_c (by omega)]; omega
      · rw [kup_eq, kup_c (by omega), kup_c (by omega), e1]
      · rw [kup_n (fun q => hj q.2), kup_c (by omega), kup_c (by omega), i3 1 (by omega)]
      · rw [kup_c (by omega), kup_c (by omega), kup_c (by omega)]; exact i1 i hi
      · rw [kup_c (by omega), kup_c (by omega), kup_c (by omega)]; exact i2 i hi
      · rw [kup_c (by omega), kup_c (by omega), e1, e2]; exact kup_eq
      · rw [kup_c (by omega), kup_c (by omega), e1, Int.toNat_natCast, kup_n (fun q => hp q.2), i3 33 (by omega)]
      · rw [kup_c (by omega), kup_c (show 1 ≠ 1 + 32 by omega), e1]; exact kup_eq
      · rw [kup_c (by omega), kup_c (show 1 ≠ 1 + 32 by omega), e1, Int.toNat_natCast, kup_n (fun q => hp q.2), kup_c (by omega), i3 34 (by omega)]
      · rw [← i3 c c2]; funext i; rw [kup_c c1, kup_c (by omega), kup_c (by omega)]
    · rw [e2, e1]
      exact w_if2 ⟨by omega, by omega⟩ ⟨by omega, by omega⟩ (fun _ => hJ) (fun e => absurd e (by omega))
/-- what comes of it -/
def PrF (z z' : Hp) (N n : Nat) (a : Int) : Prop := z' 1 0 = (N : Int) + 1 ∧ (∀ j, j ≠ 0 → z' 1 j = z 1 j) ∧ (∀ i, i < n → z' (3 + N) i = z 82 i) ∧ (∀ i, n ≤ i → z' (3 + N) i = z (3 + N) i) ∧ (z' 33 N = n ∧ ∀ p, p ≠ N → z' 33 p = z 33 p) ∧ (z' 34 N = a ∧ ∀ p, p ≠ N → z' 34 p = z 34 p) ∧ (∀ c, c ≠ 1 → c ≠ 3 + N → c ≠ 33 → c ≠ 34 → z' c = z c)
theorem w_personM {n N : Nat} {T : Nat → Int} {z : Hp} {K : Hp → Prop} (hN : N < 30) (hn : n ≤ 7) (hT : z 3 = T) (k : ∀ z' : Hp, (∀ i, i < 7 → z' 1 (2 + 8 * N + i) = if i < n then T i else 0) → (∀ j, (j < 2 + 8 * N ∨ 2 + 8 * N + 7 ≤ j) → z' 1 j = z 1 j) → (∀ c, c ≠ 1 → z' c = z c) → K z') (X8 : (Int → Hp → Prop) → Int → Hp → Prop) (hX : ∀ X v z, (rg v ∧ if 7 ≤ v then K z else jn (fun J : Hp → Prop => rg v ∧ rg (n : Int) ∧ if (n : Int) ≤ v then (inb (2 + 8 * (N : Int) + v) 608 ∧ hp1 (kup z 1 (2 + 8 * (N : Int) + v).toNat 0) (fun z17 => J z17)) else (inb v 60 ∧ inb (2 + 8 * (N : Int) + v) 608 ∧ hp1 (kup z 1 (2 + 8 * (N : Int) + v).toNat (z 3 v.toNat)) (fun z18 => J z18))) (fun z15 => lt1 (v + 1) (fun v16 => X v16 z15))) → X8 X v z) : LP1 X8 0 z := by
  refine LP1_for 7 (fun j z' => (∀ i, i < j → z' 1 (2 + 8 * N + i) = if i < n then T i else 0) ∧ (∀ i, (i < 2 + 8 * N ∨ 2 + 8 * N + 7 ≤ i) → z' 1 i = z 1 i) ∧ ∀ c, c ≠ 1 → z' c = z c) 0 rfl (by omega) ⟨fun i hi => absurd hi (by omega), fun _ _ => rfl, fun _ _ => rfl⟩ (fun X j z1 hj hI hX2 => hX _ _ _ ?_) (fun X z1 hI => hX _ _ _ ?_)
  · obtain ⟨i1, i2, i3⟩ := hI
    refine w_if ⟨by omega, by omega⟩ (fun e => absurd e (by omega)) (fun _ => ?_)
    have ad : (2 + 8 * (N : Int) + (j : Int)).toNat = 2 + 8 * N + j := by omega
    have ib : inb (2 + 8 * (N : Int) + (j : Int)) 608 := ⟨by omega, by omega⟩
    rw [ad, Int.toNat_natCast]
    have stp : ∀ x : Int, (x = if j < n then T j else 0) → X ((j : Int) + 1) (kup z1 1 (2 + 8 * N + j) x) := fun x hx => hX2 _ ⟨fun i hi => by
      by_cases g : i = j
      · subst g; rw [kup_eq]; exact hx
      · rw [kup_n (fun q => by omega)]; exact i1 i (by omega), fun i hi => by rw [kup_n (fun q => by omega)]; exact i2 i hi, fun c hc => by rw [← i3 c hc]; funext i; exact kup_c hc⟩
    by_cases g : (n : Int) ≤ (j : Int)
    · refine jn_i (fun J => J (kup z1 1 (2 + 8 * N + j) 0)) (lt_i (stp 0 (by rw [if_neg (by omega)]))) (fun J hJ => w_if2 ⟨by omega, by omega⟩ ⟨by omega, by omega⟩ (fun _ => ⟨ib, hp_i hJ⟩) (fun e => absurd g e))
    · refine jn_i (fun J => J (kup z1 1 (2 + 8 * N + j) (z1 3 j))) (lt_i (stp _ (by rw [if_pos (by omega), i3 3 (by decide), hT]))) (fun J hJ => w_if2 ⟨by omega, by omega⟩ ⟨by omega, by omega⟩ (fun e => absurd e g) (fun _ => ⟨⟨by omega, by omega⟩, ib, hp_i hJ⟩))
  · exact w_if ⟨by omega, by omega⟩ (fun _ => k z1 hI.1 hI.2.1 hI.2.2) (fun e => absurd e (by omega))
theorem inv_op3 : op3 Inv := by
  intro a1 zC zM ha h
  have h1 := h.1
  have hn := h1.n
  have ht := h1.t
  obtain ⟨b0, b1, b2, b3, b4, b5⟩ := h.2.1
  obtain ⟨r0, r1, r2, r3⟩ := rgS h1
  obtain ⟨n, n1, n2, n3, n4⟩ := h.2.2.2.1
  unfold cal_X9_person
  have rg2 : rg 2 := ⟨by decide, by decide⟩
  refine w_X9_isSex ha (fun q => w_t rg1 ?_) (fun q => w_f rg0 (w_X10_isIn ha rg0 rg2 (fun r => absurd r q) (fun _ => w_f rg0 ⟨rfl, h⟩)))
  refine w_if (by rw [b0]; exact r0) (fun c1 => ?_) (fun c1 => ?_)
  rotate_left
  · refine w_X10_isIn ha rg0 rg2 (fun _ => w_t rg1 ?_) (fun r => absurd q r)
    exact w_if r0 (fun _ => ⟨rfl, h⟩) (fun e => absurd e (by rw [b0] at c1; omega))
  rw [b0] at c1
  obtain ⟨m, hm⟩ := LN_ex (zM 3) n
  refine w_nameFault n3 n1 n4 hm (lt_i ?_)
  have hlm := hm.1
  rw [b0]
  refine lt_i ?_
  by_cases c : m = n ∧ 1 ≤ n ∧ n ≤ 7
  · obtain ⟨rfl, c2, c3⟩ := c
    rw [if_neg (by omega), if_pos ⟨rfl, c2⟩]
    obtain ⟨_, hlt, _⟩ := hm
    have hN : sN (zM 1) < 30 := by omega
    have b0' : zC 1 0 = ((sN (zM 1) : Nat) : Int) := by rw [b0]; exact hn.1
    have hm1 : zM 1 0 = ((sN (zM 1) : Nat) : Int) := hn.1
    have rm1 : rg (-1) := ⟨by decide, by decide⟩
    refine jn_i (fun J => ∀ z', PrF zC z' (sN (zM 1)) m a1 → J (kup (kup z' 0 8 0) 0 11 0)) (fun z' hz => hp_i (w_if rm1 (fun e => absurd e (by decide)) (fun _ => ?_))) (fun J hJ => w_if rm1 (fun e => absurd e (by decide)) (fun _ => w_addPerson b0' hN n3 c3 (fun i hi => by have := n4 i hi; exact ⟨by omega, by omega⟩) (fun z' y1 y2 y3 y4 y5 y6 y7 => hp_i (hp_i (hJ z' ⟨y1, y2, y3, y4, y5, y6, y7⟩)))))
    refine w_X10_isIn ha rg0 rg2 (fun _ => w_t rg1 (w_if r0 (fun e => absurd e (by omega)) (fun _ => w_lettersOnTape n2 n1 (fun i hi => ⟨rfl, (n4 i hi).2⟩) ⟨Nat.le_refl _, hlt, Or.inl rfl⟩ (lt_i (lt_i (hp_i ?_)))))) (fun r => absurd q r)
    have rm : rg (m : Int) := ⟨by omega, by omega⟩
    rw [n2]
    refine w_if rm (fun _ => w_if rm (fun e => absurd e (by omega)) (fun _ => w_if2 rm rm (fun _ => lt_i (lt_i ?_)) (fun e => absurd (Int.le_refl _) e))) (fun e => absurd e (by omega))
    rw [show kup zM 0 6 0 1 0 = ((sN (zM 1) : Nat) : Int) from by rw [kup_c (by decide)]; exact hn.1, hm1]
    refine w_personM (n := m) (T := zM 3) hN c3 (by funext i; exact kup_c (by decide)) (fun w x1 x2 x3 => ?_) _ (fun X v z hh => hh)
    have i6 : inb (2 + 8 * ((sN (zM 1) : Nat) : Int) + 7) 608 := ⟨by omega, by omega⟩
    refine ⟨i6, hp_i (hp_i ?_)⟩
    rw [show (2 + 8 * ((sN (zM 1) : Nat) : Int) + 7).toNat = 2 + 8 * sN (zM 1) + 7 by omega]
    have w0 : kup w 1 (2 + 8 * sN (zM 1) + 7) a1 1 0 = sN (zM 1) := by
      rw [pt_ne (by omega), x2 0 (by omega), kup_c (by decide)]; exact hm1
    rw [w0]
    have s0 : kup (kup w 1 (2 + 8 * sN (zM 1) + 7) a1) 1 0 ((sN (zM 1) : Int) + 1) 1 0 = (sN (zM 1) : Int) + 1 := kup_eq
    have s1 : ∀ i, i < 7 → kup (kup w 1 (2 + 8 * sN (zM 1) + 7) a1) 1 0 ((sN (zM 1) : Int) + 1) 1 (2 + 8 * sN (zM 1) + i) = if i < m then zM 3 i else 0 := fun i hi => by
      rw [pt_ne (by omega), pt_ne (by omega)]; exact x1 i hi
    have s2 : kup (kup w 1 (2 + 8 * sN (zM 1) + 7) a1) 1 0 ((sN (zM 1) : Int) + 1) 1 (2 + 8 * sN (zM 1) + 7) = a1 := by
      rw [pt_ne (by omega), kup_eq]
    have s3 : ∀ j, j ≠ 0 → (j < 2 + 8 * sN (zM 1) ∨ 2 + 8 * sN (zM 1) + 8 ≤ j) → kup (kup w 1 (2 + 8 * sN (zM 1) + 7) a1) 1 0 ((sN (zM 1) : Int) + 1) 1 j = zM 1 j := fun j h0 hj => by
      rw [pt_ne h0, pt_ne (by omega), x2 j (by omega), kup_c (by decide)]
    have fm : ∀ c, c ≠ 0 → c ≠ 1 → kup (kup w 1 (2 + 8 * sN (zM 1) + 7) a1) 1 0 ((sN (zM 1) : Int) + 1) c = zM c := fun c e0 e1 => by
      funext i; rw [kup_c e1, kup_c e1, x3 c e1, kup_c e0]
    have fm0 : ∀ j, j ≠ 6 → kup (kup w 1 (2 + 8 * sN (zM 1) + 7) a1) 1 0 ((sN (zM 1) : Int) + 1) 0 j = zM 0 j := fun j e0 => by
      rw [kup_c (by decide), kup_c (by decide), x3 0 (by decide), pt_ne e0]
    have fm6 : kup (kup w 1 (2 + 8 * sN (zM 1) + 7) a1) 1 0 ((sN (zM 1) : Int) + 1) 0 6 = 0 := by
      rw [kup_c (by decide), kup_c (by decide), x3 0 (by decide), kup_eq]
    generalize kup (kup w 1 (2 + 8 * sN (zM 1) + 7) a1) 1 0 ((sN (zM 1) : Int) + 1) = m1 at *
    have en : sN (m1 1) = sN (zM 1) + 1 := by unfold sN; rw [s0]; unfold sN; omega
    have et : sT (m1 1) = sT (zM 1) := by unfold sT; rw [s3 1 (by decide) (by omega)]
    have hS' : SOk 60 (m1 1) := by
      refine ⟨by rw [s0]; omega, by rw [s3 1 (by decide) (by omega)]; exact h1.2.1, fun p hp => ?_, fun u hu => ?_⟩
      · rw [en] at hp
        by_cases g : p = sN (zM 1)
        · subst g
          refine ⟨⟨m, c2, c3, fun i hi => ?_, fun i g1 g2 => ?_⟩, ?_⟩
          · unfold pL; rw [s1 i (by omega), if_pos hi]; exact hlt i hi
          · unfold pL; rw [s1 i g2, if_neg (by omega)]
          · unfold pX; rw [s2]; exact q
        · exact (h1.2.2.1 p (by omega)).cg (fun i hi => s3 _ (by omega) (by omega))
      · rw [et] at hu
        rw [en]
        exact ((h1.2.2.2 u hu).cg (S' := m1 1) (fun k hk => s3 _ (by omega) (by omega))).up (by omega)
    refine w_X10_works (M := 60) (by omega) rfl hS' (fun u hu _ => by omega) (fun v' hR f0 fc => ⟨rfl, ?_⟩)
    obtain ⟨y1, y2, y3, y4, y5, y6, y7⟩ := hz
    have c40 : ∀ c, c ≠ 0 → c ≠ 81 → kup (kup (kup z' 0 8 0) 0 11 0) 81 1 0 c = z' c := fun c p p2 => by funext i; rw [kup_c p2, kup_c p, kup_c p]
    refine h.chg hS' ⟨?_, ?_, ?_, fun u hu => ?_, fun u hu => ?_, fun p hp i hi => ?_⟩ (fun c p p2 _ => by rw [c40 c (by omega) p2, y7 c (by omega) (by omega) (by omega) (by omega)]) ?_ ⟨?_, ?_⟩ (fc 1 (by decide) (by decide)) hR (fun j hj => by rw [f0 j (by omega) (by omega) (by omega) (by omega) (by omega), fm0 j (by omega)]) (fun c hc => by rw [fc c (by omega) (by omega), fm c (by omega) (by omega)]) ⟨0, by omega, by rw [f0 6 (by decide) (by decide) (by decide) (by decide) (by decide)]; exact fm6, kup_eq, fun i hi => absurd hi (by omega)⟩
    · rw [c40 1 (by decide) (by decide), s0, y1]
    · rw [c40 1 (by decide) (by decide), s3 1 (by omega) (by omega), y2 1 (by decide)]; exact b1
    · rw [et]
      have := (b2.cg (S' := m1 1) (fun u hu w hw => s3 _ (by omega) (by omega)))
      intro u hu
      have := this u hu
      rw [c40 (1 + 34) (by decide) (by decide), c40 (1 + 35) (by decide) (by decide), c40 (1 + 36) (by decide) (by decide), c40 (1 + 37) (by decide) (by decide), c40 (1 + 38) (by decide) (by decide), y7 (1 + 34) (by omega) (by omega) (by omega) (by omega), y7 (1 + 35) (by omega) (by omega) (by omega) (by omega), y7 (1 + 36) (by omega) (by omega) (by omega) (by omega), y7 (1 + 37) (by omega) (by omega) (by omega) (by omega), y7 (1 + 38) (by omega) (by omega) (by omega) (by omega)]
      exact this
    · rw [et] at hu
      rw [c40 (1 + 39) (by decide) (by decide), y7 (1 + 39) (by omega) (by omega) (by omega) (by omega)]
      have : fV (m1 1) u = fV (zM 1) u := s3 _ (by omega) (by omega)
      rw [this]; exact b3 u hu
    · rw [en] at hu
      by_cases g : u = sN (zM 1)
      · subst g
        refine ⟨?_, m, ?_, c2, c3, fun i hi => ?_, fun i g1 g2 => ?_⟩
        · rw [c40 (1 + 33) (by decide) (by decide)]; unfold pX; rw [s2]; exact y6.1
        · rw [c40 (1 + 32) (by decide) (by decide)]; exact y5.1
        · unfold pL
          rw [c40 (1 + 2 + sN (zM 1)) (by omega) (by omega), s1 i (by omega), if_pos hi]
          exact ⟨(y3 i hi).trans (n4 i hi).1, hlt i hi⟩
        · unfold pL; rw [s1 i g2, if_neg (by omega)]
      · have := (b4 u (by omega)).cg (S' := m1 1) (fun i hi => s3 _ (by omega) (by omega))
        obtain ⟨x, l, y, z1, z2, z3, z4⟩ := this
        refine ⟨by rw [c40 (1 + 33) (by decide) (by decide)]; exact (y6.2 u g).trans x, l, by rw [c40 (1 + 32) (by decide) (by decide)]; exact (y5.2 u g).trans y, z1, z2, fun i hi => ?_, z4⟩
        rw [c40 (1 + 2 + u) (by omega) (by omega), y7 (1 + 2 + u) (by omega) (by omega) (by omega) (by omega)]; exact z3 i hi
    · rw [c40 (1 + 2 + p) (by omega) (by omega)]
      by_cases g : p = sN (zM 1)
      · subst g
        by_cases g2 : i < m
        · rw [show 1 + 2 + sN (zM 1) = 3 + sN (zM 1) by omega, y3 i g2]
          have := n4 i g2
          exact ⟨by omega, by omega⟩
        · rw [show 1 + 2 + sN (zM 1) = 3 + sN (zM 1) by omega, y4 i (by omega)]
          have := b5 (sN (zM 1)) hp i hi
          rw [show 1 + 2 + sN (zM 1) = 3 + sN (zM 1) by omega] at this
          exact this
      · rw [y7 (1 + 2 + p) (by omega) (by omega) (by omega) (by omega)]; exact b5 p hp i hi
    · rw [kup_c (by decide), kup_n (by decide), kup_n (by decide), y7 0 (by omega) (by omega) (by omega) (by omega)]
    · rw [kup_c (by decide), kup_n (by decide), kup_eq]
    · rw [kup_c (by decide), kup_eq]
  · have key : ∀ v : Int, (v = if 8 ≤ m then (7 : Int) else if m = n ∧ 1 ≤ n then -1 else (m : Int)) → 0 ≤ v ∧ (v = 7 ∧ 8 ≤ m ∨ v = m ∧ m ≤ 7 ∧ (m = 0 ∨ ¬ n ≤ m)) := fun v hv => by
      by_cases g : 8 ≤ m
      · rw [if_pos g] at hv; omega
      · by_cases g2 : m = n ∧ 1 ≤ n
        · omega
        · rw [if_neg g, if_neg g2] at hv; omega
    generalize hv : (if 8 ≤ m then (7 : Int) else if m = n ∧ 1 ≤ n then -1 else (m : Int)) = v
    obtain ⟨kv, kc⟩ := key v hv.symm
    have rv : rg v := ⟨by omega, by omega⟩
    refine jn_i (fun J => J zC) (hp_i (w_if rv (fun _ => ?_) (fun e => absurd kv e))) (fun J hJ => w_if rv (fun _ => hJ) (fun e => absurd kv e))
    refine w_X10_isIn ha rg0 rg2 (fun _ => w_t rg1 (w_if r0 (fun e => absurd e (by omega)) (fun _ => w_lettersOnTape n2 n1 (fun i hi => ⟨rfl, (n4 i hi).2⟩) hm (lt_i (lt_i (hp_i ?_)))))) (fun r => absurd q r)
    have rm : rg (m : Int) := ⟨by omega, by omega⟩
    rw [n2]
    rcases kc with ⟨rfl, k1⟩ | ⟨rfl, k1, k2⟩
    · exact w_if rm (fun e => absurd e (by omega)) (fun _ => ⟨rfl, h.wipe⟩)
    · refine w_if rm (fun _ => w_if rm (fun _ => ⟨rfl, h.wipe⟩) (fun g => w_if2 rm ⟨by omega, by omega⟩ (fun e => absurd e (by omega)) (fun _ => ⟨rfl, h.wipe⟩))) (fun e => absurd e (by omega))
