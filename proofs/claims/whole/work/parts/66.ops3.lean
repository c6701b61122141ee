/-! calls of people -/
theorem Inv.scrM {zC zM z' : Hp} (h : Inv zC zM) (e : ∀ c, c ≠ 0 → c ≠ 5 → (c < 13 ∨ 17 < c) → z' c = zM c) (e0 : ∀ j, j ≠ 8 → j ≠ 9 → j ≠ 20 → j ≠ 27 → j ≠ 28 → z' 0 j = zM 0 j) : Inv zC z' :=
  h.upd (fun _ _ _ => rfl) (fun _ _ => rfl) (fun _ _ => rfl) (e 1 (by decide) (by decide) (by decide)) (e 2 (by decide) (by decide) (by decide)) (fun c a b => e c (by omega) (by omega) (by omega)) (fun j hj => e0 j (by omega) (by omega) (by omega) (by omega) (by omega)) (h.2.2.2.1.to rfl rfl (e 3 (by decide) (by decide) (by decide)) (e0 6 (by decide) (by decide) (by decide) (by decide) (by decide))) (h.2.2.2.2.1.to rfl rfl (e 4 (by decide) (by decide) (by decide)) (e0 7 (by decide) (by decide) (by decide) (by decide) (by decide))) (h.2.2.2.2.2.1.to (fun _ _ _ => rfl) (e 18 (by decide) (by decide) (by decide)) (e 19 (by decide) (by decide) (by decide)))
theorem prB {S : Nat → Int} (h : SOk 60 S) (p : Nat) : moOf S p < 1073741824 ∧ faOf S p < 1073741824 ∧ prOf S p < 1073741824 :=
  ⟨p30 h.n.2 (moOf_ok h p).1, p30 h.n.2 (faOf_ok h p).1, p30 h.n.2 (prOf_ok h p).1⟩
theorem pr_hi {S : Nat → Int} (h : SOk 60 S) {p : Nat} (hp : sN S ≤ p) (v : Nat) : (prOf S p).testBit v = false := by rw [(prOf_ok h p).2 hp, Nat.zero_testBit]
theorem ab_hi {S : Nat → Int} {ab : Nat → Nat} (h : SOk 60 S) (hab : IsAb (sN S) (prOf S) ab) {p : Nat} (hp30 : p < 30) (hp : sN S ≤ p) (v : Nat) : (ab p).testBit v = false := by
  cases hb : (ab p).testBit v with
  | false => rfl
  | true => exact absurd (Rch.first (prOf_ok h) (((hab p hp30).2 v).mp hb)) (by omega)
/-- class's children and reference's -/
theorem ch_eq {S : Nat → Int} (h : SOk 60 S) (v : Nat) : setS (fun p => (prOf S p).testBit v) 30 = setS (fun p => (moOf S p ||| faOf S p).testBit v) (sN S) := setS_30 h.n.2 (fun p hp => pr_hi h hp v)
set_option maxHeartbeats 1000000 in
theorem inv_op12 : op12 Inv := by
  intro a1 a2 zC zM ha hb h
  have h1 := h.1
  have hn := h1.n
  have b0 := h.2.1.1
  obtain ⟨r0, r1, r2, r3⟩ := rgS h1
  unfold cal_X9_people
  refine w_X0_isPerson (t := 1) ha (by rw [b0]; exact r0) (fun q => w_t rg1 ?_) (fun q => w_f rg0 ?_)
  rotate_left
  · rw [b0] at q
    exact w_X10_isPerson ha r2 (fun r => absurd r q) (fun _ => w_f rg0 ⟨rfl, h⟩)
  rw [b0] at q
  refine w_settle h (fun z' h' _ st _ => ?_)
  obtain ⟨p, rfl⟩ : ∃ p : Nat, a1 = p := ⟨a1.toNat, by omega⟩
  have hp : p < sN (zM 1) := by omega
  obtain ⟨ab, sx, hab, hF, ⟨r6, r7, r8, r9⟩, hE, hCl, hrd⟩ := st
  have gp := h1.g30 hp
  have ib : inb (p : Int) 30 := ⟨by omega, by omega⟩
  obtain ⟨_, hcnt, hall, R1, R2, ⟨R3, R4, R5, R6, R8, R9⟩, R7, ring⟩ := hF
  have R1 : Row z' 89 (gOf (zM 1)) := R1
  have hgg := gOf_good h1
  have hlv := lv_ok h1 (Nat.le_refl _)
  have hpx : ∀ x, x < sN (zM 1) → 0 ≤ pX (zM 1) x ∧ pX (zM 1) x ≤ 2 := fun x hx => (h1.2.2.1 x hx).2
  rw [Int.toNat_natCast, R1 p (by omega)]
  have pB := fun p => prB h1 p
  generalize hv : gOf (zM 1) p = v at *
  have iv : inb (v : Int) 30 := ⟨by omega, by omega⟩
  refine ⟨ib, hb, ?_⟩
  refine w_ite (fun e => ?_) (fun e0 => w_ite (fun e => ?_) (fun e1 => w_ite (fun e => ?_) (fun e2 => w_ite (fun e => ?_) (fun e3 => w_ite (fun e => ?_) (fun e4 => w_ite (fun e => ?_) (fun e5 => w_ite (fun e => ?_) (fun e6 => w_ite (fun e => ?_) (fun e7 => ?_))))))))
  · refine w_X10_isPerson ha r2 (fun _ => w_t rg1 ⟨ib, ?_⟩) (fun r => absurd q r)
    rw [Int.toNat_natCast, r6 p (by omega), hv]
    refine lt_i (lt_i ⟨hb, ?_⟩)
    rw [if_pos e]
    exact ⟨rfl, h'⟩
  · refine ⟨iv, ?_⟩
    rw [Int.toNat_natCast, R2 v (by omega)]
    refine w_X10_isPerson ha r2 (fun _ => w_t rg1 ⟨ib, ?_⟩) (fun r => absurd q r)
    rw [Int.toNat_natCast, r6 p (by omega), hv]
    refine lt_i (lt_i ⟨hb, ?_⟩)
    rw [if_neg e0, if_pos e]
    refine lt_i (LQ2_for (sN (zM 1)) (fun j a => a = ((szK (gOf (zM 1)) j v : Nat) : Int)) 0 rfl (by omega) rfl (fun X j a hj ha hX => ?_) (fun X a ha => ?_))
    · have gj := hgg.1 j
      refine w_if2 ⟨by omega, by omega⟩ r0 (fun r => absurd r (by omega)) (fun _ => ⟨⟨by omega, by omega⟩, jn_i (fun J => J ((szK (gOf (zM 1)) (j + 1) v : Nat) : Int)) (lt_i (hX _ rfl)) (fun J hJ => ?_)⟩)
      rw [Int.toNat_natCast, r6 j (by omega)]
      have ez : szK (gOf (zM 1)) (j + 1) v = if v = gOf (zM 1) j then szK (gOf (zM 1)) j v + 1 else szK (gOf (zM 1)) j v := by
        show fup _ _ _ v = _
        by_cases c : v = gOf (zM 1) j
        · rw [if_pos c, ← c, fup_eq]
        · rw [if_neg c, fup_ne c]
      rw [ez] at hJ
      refine w_if2 ⟨by omega, by omega⟩ ⟨by omega, by omega⟩ (fun c => lt_i ?_) (fun c => lt_i ?_)
      · rw [if_pos (by omega)] at hJ
        rw [ha]; exact hJ
      · rw [if_neg (by omega)] at hJ
        rw [ha, Int.add_zero]; exact hJ
    · subst ha
      exact w_if2 ⟨by omega, by omega⟩ r0 (fun _ => ⟨rfl, h'⟩) (fun r => absurd r (by omega))
  · refine ⟨iv, ?_⟩
    rw [Int.toNat_natCast, R3 v (by omega)]
    refine w_X10_isPerson ha r2 (fun _ => w_t rg1 ⟨ib, ?_⟩) (fun r => absurd q r)
    rw [Int.toNat_natCast, r6 p (by omega), hv]
    refine lt_i (lt_i ⟨hb, ?_⟩)
    rw [if_neg e0, if_neg e1, if_pos e]
    refine w_X10_sexes h1 rfl (by omega) r6 r7 r8 (fun x hx => by have := hgg.1 x; omega) (fun x _ => (pB x).1) (fun x _ => (pB x).2.1) ⟨?_, h'⟩
    have := sx_eq hgg hlv v
    exact congrArg (fun x : Nat => (x : Int)) this
  · refine ⟨iv, ?_⟩
    rw [Int.toNat_natCast, R4 v (by omega)]
    refine w_X1_least (pB v).1 (fun x hx => ?_)
    refine w_X10_isPerson ha r2 (fun _ => w_t rg1 ⟨ib, ?_⟩) (fun r => absurd q r)
    rw [Int.toNat_natCast, r6 p (by omega), hv]
    refine lt_i (lt_i ⟨hb, ?_⟩)
    rw [if_neg e0, if_neg e1, if_neg e2, if_pos e]
    refine ⟨iv, ?_⟩
    rw [Int.toNat_natCast, r7 v (by omega)]
    exact w_X10_least (pB v).1 (fun y hy => ⟨hx.eq hy, h'⟩)
  · refine ⟨iv, ?_⟩
    rw [Int.toNat_natCast, R5 v (by omega)]
    refine w_X1_least (pB v).2.1 (fun x hx => ?_)
    refine w_X10_isPerson ha r2 (fun _ => w_t rg1 ⟨ib, ?_⟩) (fun r => absurd q r)
    rw [Int.toNat_natCast, r6 p (by omega), hv]
    refine lt_i (lt_i ⟨hb, ?_⟩)
    rw [if_neg e0, if_neg e1, if_neg e2, if_neg e3, if_pos e]
    refine ⟨iv, ?_⟩
    rw [Int.toNat_natCast, r8 v (by omega)]
    exact w_X10_least (pB v).2.1 (fun y hy => ⟨hx.eq hy, h'⟩)
  · refine w_X1_holders (r := 94) (m := prOf (zM 1)) R6 (fun x _ => (pB x).2.2) (by omega) ?_
    rw [ch_eq h1 v]
    have sl := setS_lt (P := fun p => (moOf (zM 1) p ||| faOf (zM 1) p).testBit v) (sN (zM 1)) hn.2
    refine w_bitCount sl ?_
    refine w_X10_isPerson ha r2 (fun _ => w_t rg1 ⟨ib, ?_⟩) (fun r => absurd q r)
    rw [Int.toNat_natCast, r6 p (by omega), hv]
    refine lt_i (lt_i ⟨hb, ?_⟩)
    rw [if_neg e0, if_neg e1, if_neg e2, if_neg e3, if_neg e4, if_pos e]
    exact w_X10_childrenOf hn.2 hn.1 r7 r8 (fun x _ => (pB x).1) (fun x _ => (pB x).2.1) (by omega) (w_X10_ones sl ⟨rfl, h'⟩)
  · refine ⟨iv, ?_⟩
    rw [Int.toNat_natCast, R9 v (by omega)]
    refine w_X10_isPerson ha r2 (fun _ => w_t rg1 ⟨ib, ?_⟩) (fun r => absurd q r)
    rw [Int.toNat_natCast, r6 p (by omega), hv]
    refine lt_i (lt_i ⟨hb, ?_⟩)
    rw [if_neg e0, if_neg e1, if_neg e2, if_neg e3, if_neg e4, if_neg e5, if_pos e]
    exact w_X10_marriages h1 rfl r6 hgg (by omega) ⟨rfl, h'⟩
  · have ref7 : ∀ K : Int → Hp → Prop, cal_X10_ages zM (fun v20 z19 => rg v20 ∧ if v20 = 0 then (K (-5) z19) else (inb (v : Int) 30 ∧ K (z19 17 (v : Int).toNat) z19)) → cal_X10_people p a2 zM K := fun K hK => by
      refine w_X10_isPerson ha r2 (fun _ => w_t rg1 ⟨ib, ?_⟩) (fun r => absurd q r)
      rw [Int.toNat_natCast, r6 p (by omega), hv]
      refine lt_i (lt_i ⟨hb, ?_⟩)
      rw [if_neg e0, if_neg e1, if_neg e2, if_neg e3, if_neg e4, if_neg e5, if_neg e6, if_pos e]
      exact hK
    have sc : ∀ z'' : Hp, (∀ c, c ≠ 17 → z'' c = zM c) → Inv z' z'' := fun z'' hz => h'.scrM (fun c _ _ _ => hz c (by omega)) (fun j _ _ _ _ _ => by rw [hz 0 (by decide)])
    rcases ring with ⟨g1, g2⟩ | ⟨g1, g2, g3⟩
    · rw [g2]
      refine ⟨rg1, ?_⟩
      rw [if_neg (by decide)]
      exact ref7 _ (w_X10_ages hn.2 hn.1 r7 r8 r9 (prOf_ok h1) hab (fun x _ => (pB x).1) (fun x _ => (pB x).2.1) (fun r => absurd g1 r) (fun _ z'' hz => w_f rg0 ⟨rfl, sc z'' hz⟩))
    · rw [g2]
      refine ⟨rg0, ?_⟩
      rw [if_pos rfl, Int.toNat_natCast, g3 v (by omega)]
      refine ⟨iv, ref7 _ (w_X10_ages hn.2 hn.1 r7 r8 r9 (prOf_ok h1) hab (fun x _ => (pB x).1) (fun x _ => (pB x).2.1) (fun _ z'' hz hfr => w_t rg1 ⟨iv, ?_, sc z'' hfr⟩) (fun r => absurd r g1))⟩
      rw [Int.toNat_natCast, hz v (by rw [← hv]; exact hgg.lt hp)]
      rfl
  · refine w_X10_isPerson ha r2 (fun _ => w_t rg1 ⟨ib, ?_⟩) (fun r => absurd q r)
    rw [Int.toNat_natCast, r6 p (by omega), hv]
    refine lt_i (lt_i ⟨hb, ?_⟩)
    rw [if_neg e0, if_neg e1, if_neg e2, if_neg e3, if_neg e4, if_neg e5, if_neg e6, if_neg e7]
    exact ⟨rfl, h'⟩
