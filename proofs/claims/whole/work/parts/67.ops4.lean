/-! relatives, ancestors, orders, lists laid and judged -/
theorem setS_up' {P : Nat → Bool} {n : Nat} : ∀ d, (∀ p, n ≤ p → p < n + d → P p = false) → setS P (n + d) = setS P n
  | 0, _ => rfl
  | d + 1, h => by rw [show n + (d + 1) = (n + d) + 1 by omega, setS, h (n + d) (by omega) (by omega), if_neg (by decide), setS_up' d (fun p a b => h p a (by omega))]
theorem setS_30' {P : Nat → Bool} {n : Nat} (hn : n ≤ 30) (h : ∀ p, n ≤ p → p < 30 → P p = false) : setS P 30 = setS P n := by
  have := setS_up' (P := P) (n := n) (30 - n) (fun p a b => h p a (by omega))
  rwa [show n + (30 - n) = 30 by omega] at this
theorem inv_op29 : op29 Inv := by
  intro a1 zC zM ha h
  have h1 := h.1
  have hn := h1.n
  have b0 := h.2.1.1
  obtain ⟨r0, r1, r2, r3⟩ := rgS h1
  unfold cal_X9_ancestors
  refine w_X0_isPerson (t := 1) ha (by rw [b0]; exact r0) (fun q => w_t rg1 ?_) (fun q => w_f rg0 ?_)
  rotate_left
  · rw [b0] at q
    exact w_X10_isPerson ha r2 (fun r => absurd r q) (fun _ => w_f rg0 ⟨rfl, h⟩)
  rw [b0] at q
  refine w_settle h (fun z' h' _ st _ => ?_)
  obtain ⟨p, rfl⟩ : ∃ p : Nat, a1 = p := ⟨a1.toNat, by omega⟩
  have hp : p < sN (zM 1) := by omega
  obtain ⟨ab, sx, hab, hF, ⟨r6, r7, r8, r9⟩, hE, hCl, hrd⟩ := st
  have gp := h1.g30 hp
  have ib : inb (p : Int) 30 := ⟨by omega, by omega⟩
  have R1 : Row z' 89 (gOf (zM 1)) := hF.2.2.2.1
  have R7 : Row z' 95 ab := hF.2.2.2.2.2.2.1
  have bb := p30 hn.2 (hab (gOf (zM 1) p) gp).1
  rw [Int.toNat_natCast, R1 p (by omega), Int.toNat_natCast, R7 _ gp]
  refine ⟨ib, ⟨by omega, by omega⟩, ⟨by omega, by omega⟩, w_X10_isPerson ha r2 (fun _ => w_t rg1 ⟨ib, ?_⟩) (fun r => absurd q r)⟩
  rw [Int.toNat_natCast, r6 p (by omega), Int.toNat_natCast, r9 _ gp]
  exact ⟨⟨by omega, by omega⟩, ⟨by omega, by omega⟩, rfl, h'⟩
theorem inv_op30 : op30 Inv := by
  intro a1 zC zM ha h
  have h1 := h.1
  have hn := h1.n
  have b0 := h.2.1.1
  obtain ⟨r0, r1, r2, r3⟩ := rgS h1
  unfold cal_X9_descendants
  refine w_X0_isPerson (t := 1) ha (by rw [b0]; exact r0) (fun q => w_t rg1 ?_) (fun q => w_f rg0 ?_)
  rotate_left
  · rw [b0] at q
    exact w_X10_isPerson ha r2 (fun r => absurd r q) (fun _ => w_f rg0 ⟨rfl, h⟩)
  rw [b0] at q
  refine w_settle h (fun z' h' _ st _ => ?_)
  obtain ⟨p, rfl⟩ : ∃ p : Nat, a1 = p := ⟨a1.toNat, by omega⟩
  have hp : p < sN (zM 1) := by omega
  obtain ⟨ab, sx, hab, hF, ⟨r6, r7, r8, r9⟩, hE, hCl, hrd⟩ := st
  have gp := h1.g30 hp
  have ib : inb (p : Int) 30 := ⟨by omega, by omega⟩
  have R1 : Row z' 89 (gOf (zM 1)) := hF.2.2.2.1
  have R7 : Row z' 95 ab := hF.2.2.2.2.2.2.1
  rw [Int.toNat_natCast, R1 p (by omega)]
  refine ⟨ib, ?_⟩
  generalize hv : gOf (zM 1) p = v at *
  refine w_X1_holders (r := 95) (m := ab) R7 (fun x hx => p30 hn.2 (hab x hx).1) gp ?_
  rw [setS_30' (P := fun p => (ab p).testBit v) hn.2 (fun x a b => ab_hi h1 hab b a v)]
  have sl := setS_lt (P := fun p => (ab p).testBit v) (sN (zM 1)) hn.2
  refine ⟨⟨by omega, by omega⟩, w_X10_isPerson ha r2 (fun _ => w_t rg1 ?_) (fun r => absurd q r)⟩
  refine lt_i (lt_i ?_)
  refine LQ2_for (sN (zM 1)) (fun j a => a = ((setS (fun p => (ab p).testBit v) j : Nat) : Int)) 0 rfl (by omega) rfl (fun X j a hj ha hX => ?_) (fun X a ha => ?_)
  · have sl := setS_lt (P := fun p => (ab p).testBit v) j (by omega)
    refine w_if2 ⟨by omega, by omega⟩ r0 (fun e => absurd e (by omega)) (fun _ => ⟨⟨by omega, by omega⟩, ib, ?_⟩)
    rw [Int.toNat_natCast, Int.toNat_natCast, r9 j (by omega), r6 p (by omega), hv]
    refine w_X10_has (p30 hn.2 (hab j (by omega)).1) (by omega) (fun hb => jn_i (fun J => J ((setS (fun p => (ab p).testBit v) (j + 1) : Nat) : Int)) (lt_i (hX _ rfl)) (fun J hJ => w_t rg1 (lt_i ?_))) (fun hb => jn_i (fun J => J ((setS (fun p => (ab p).testBit v) (j + 1) : Nat) : Int)) (lt_i (hX _ rfl)) (fun J hJ => w_f rg0 (lt_i ?_)))
    · rw [setS, if_pos hb] at hJ
      rw [ha, ior_shl sl (by omega)]; exact hJ
    · rw [setS, if_neg (by rw [hb]; decide)] at hJ
      rw [ha, ior_z (by omega)]; exact hJ
  · subst ha
    exact w_if2 ⟨by omega, by omega⟩ r0 (fun _ => ⟨⟨by omega, by omega⟩, rfl, h'⟩) (fun e => absurd e (by omega))
theorem inv_op28 : op28 Inv := by
  intro a1 a2 zC zM ha hb h
  have h1 := h.1
  have hn := h1.n
  have b0 := h.2.1.1
  obtain ⟨r0, r1, r2, r3⟩ := rgS h1
  unfold cal_X9_relatives
  refine w_X0_isPerson (t := 1) ha (by rw [b0]; exact r0) (fun q => w_t rg1 ?_) (fun q => w_f rg0 ?_)
  rotate_left
  · rw [b0] at q
    exact w_X10_isPerson ha r2 (fun r => absurd r q) (fun _ => w_f rg0 ⟨rfl, h⟩)
  rw [b0] at q
  obtain ⟨p, rfl⟩ : ∃ p : Nat, a1 = p := ⟨a1.toNat, by omega⟩
  have hp : p < sN (zM 1) := by omega
  have gp := h1.g30 hp
  have ib : inb (p : Int) 30 := ⟨by omega, by omega⟩
  have r6 : Row zM 6 (gOf (zM 1)) := by
    obtain ⟨ab, cl, wh, r6, _⟩ := h.2.2.2.2.2.2.1
    exact r6
  have bad : ¬ (0 ≤ a2 ∧ a2 ≤ 2) → cal_X10_relatives p a2 zM (fun r' => (-9223372036854775808 : Int) = r' ∧ Inv zC zM) := fun e => by
    refine w_X10_isPerson ha r2 (fun _ => w_t rg1 ⟨ib, ?_⟩) (fun r => absurd q r)
    rw [Int.toNat_natCast, r6 p (by omega)]
    refine lt_i (lt_i ⟨hb, ?_⟩)
    rw [if_neg (by omega), if_neg (by omega), if_neg (by omega)]
    exact ⟨rfl, h⟩
  refine w_if hb (fun e => bad (by omega)) (fun e => w_if hb (fun e' => ?_) (fun e' => bad (by omega)))
  refine w_settle h (fun z' h' _ st _ => ?_)
  obtain ⟨ab, sx, hab, hF, ⟨_, r7, r8, r9⟩, hE, hCl, hrd⟩ := st
  obtain ⟨_, hcnt, hall, R1, R2, ⟨R3, R4, R5, R6, R8, R9⟩, R7, ring⟩ := hF
  have R1 : Row z' 89 (gOf (zM 1)) := R1
  have R6 : Row z' 94 (prOf (zM 1)) := R6
  have R8 : Row z' 96 (spL (zM 1) (gOf (zM 1)) (lv (zM 1))) := R8
  have hgg := gOf_good h1
  have pB := fun p => prB h1 p
  rw [Int.toNat_natCast, R1 p (by omega)]
  generalize hv : gOf (zM 1) p = v at *
  have iv : inb (v : Int) 30 := ⟨by omega, by omega⟩
  refine ⟨ib, lt_i ?_⟩
  refine w_if hb (fun c => ?_) (fun c0 => w_if hb (fun c => ?_) (fun c1 => ⟨iv, ?_⟩))
  · refine w_X1_holders (r := 94) (m := prOf (zM 1)) R6 (fun x _ => (pB x).2.2) (by omega) ?_
    rw [ch_eq h1 v]
    have sl := setS_lt (P := fun p => (moOf (zM 1) p ||| faOf (zM 1) p).testBit v) (sN (zM 1)) hn.2
    refine ⟨⟨by omega, by omega⟩, w_X10_isPerson ha r2 (fun _ => w_t rg1 ⟨ib, ?_⟩) (fun r => absurd q r)⟩
    rw [Int.toNat_natCast, r6 p (by omega), hv]
    refine lt_i (lt_i ⟨hb, ?_⟩)
    rw [if_pos c]
    exact w_X10_childrenOf hn.2 hn.1 r7 r8 (fun x _ => (pB x).1) (fun x _ => (pB x).2.1) (by omega) ⟨⟨by omega, by omega⟩, rfl, h'⟩
  · refine w_X1_siblings (t := 88) (pr := prOf (zM 1)) R6 (fun x _ => (pB x).2.2) (by omega) ?_
    rw [setS_30 (P := fun p => decide (p ≠ v ∧ prOf (zM 1) p &&& prOf (zM 1) v ≠ 0)) hn.2 (fun x hx => by
      rw [(prOf_ok h1 x).2 hx, Nat.zero_and]
      simp)]
    have sl := setS_lt (P := fun p => decide (p ≠ v ∧ prOf (zM 1) p &&& prOf (zM 1) v ≠ 0)) (sN (zM 1)) hn.2
    refine ⟨⟨by omega, by omega⟩, w_X10_isPerson ha r2 (fun _ => w_t rg1 ⟨ib, ?_⟩) (fun r => absurd q r)⟩
    rw [Int.toNat_natCast, r6 p (by omega), hv]
    refine lt_i (lt_i ⟨hb, ?_⟩)
    rw [if_neg c0, if_pos c]
    refine lt_i (LQ2_for (sN (zM 1)) (fun j a => a = ((setS (fun p => decide (p ≠ v ∧ prOf (zM 1) p &&& prOf (zM 1) v ≠ 0)) j : Nat) : Int)) 0 rfl (by omega) rfl (fun X j a hj ha hX => ?_) (fun X a ha => ?_))
    · have sl := setS_lt (P := fun p => decide (p ≠ v ∧ prOf (zM 1) p &&& prOf (zM 1) v ≠ 0)) j (by omega)
      have bj := (pB j).2.2
      have bv := (pB v).2.2
      have al : prOf (zM 1) j &&& prOf (zM 1) v < 1073741824 := Nat.and_lt_two_pow (n := 30) _ bv
      refine w_if2 ⟨by omega, by omega⟩ r0 (fun e => absurd e (by omega)) (fun _ => jn_i (fun J => J ((setS (fun p => decide (p ≠ v ∧ prOf (zM 1) p &&& prOf (zM 1) v ≠ 0)) (j + 1) : Nat) : Int)) (lt_i (hX _ rfl)) (fun J hJ => ?_))
      rw [setS] at hJ
      have eo : ∀ x, x < 30 → ior (moOf (zM 1) x) (faOf (zM 1) x) = (prOf (zM 1) x : Nat) := fun x _ => ior_n (by have := (pB x).1; omega) (by have := (pB x).2.1; omega)
      rw [Int.toNat_natCast, Int.toNat_natCast, r7 j (by omega), r8 j (by omega), r7 v (by omega), r8 v (by omega), eo j (by omega), eo v (by omega), iand_n (by omega) (by omega)]
      have ij : inb (j : Int) 30 := ⟨by omega, by omega⟩
      refine w_if2 ⟨by omega, by omega⟩ ⟨by omega, by omega⟩ (fun e => lt_i ?_) (fun e => ⟨ij, ij, iv, iv, ⟨by omega, by omega⟩, w_ite (fun e' => lt_i ?_) (fun e' => lt_i ?_)⟩)
      · rw [if_neg (by rw [decide_eq_true_eq]; exact fun q => q.1 (by omega))] at hJ
        rw [ha, ior_z (by omega)]; exact hJ
      · rw [if_neg (by rw [decide_eq_true_eq]; exact fun q => q.2 (by omega))] at hJ
        rw [ha, ior_z (by omega)]; exact hJ
      · rw [if_pos (by rw [decide_eq_true_eq]; exact ⟨by omega, by omega⟩)] at hJ
        rw [ha, ior_shl sl (by omega)]; exact hJ
    · subst ha
      exact w_if2 ⟨by omega, by omega⟩ r0 (fun _ => ⟨⟨by omega, by omega⟩, rfl, h'⟩) (fun e => absurd e (by omega))
  · rw [Int.toNat_natCast, R8 v (by omega)]
    have sl := p30 hn.2 (spL_ok (S := zM 1) hgg (lv (zM 1)) (lv_ok h1 (Nat.le_refl _)) v)
    refine ⟨⟨by omega, by omega⟩, w_X10_isPerson ha r2 (fun _ => w_t rg1 ⟨ib, ?_⟩) (fun r => absurd q r)⟩
    rw [Int.toNat_natCast, r6 p (by omega), hv]
    refine lt_i (lt_i ⟨hb, ?_⟩)
    rw [if_neg c0, if_neg c1, if_pos (by omega)]
    exact w_X10_marriedTo h1 rfl r6 hgg (by omega) ⟨⟨by omega, by omega⟩, rfl, h'⟩
theorem ords {zC zM : Hp} (h : Inv zC zM) (h8 : zC 0 8 = 1) (st : Stl zC zM (zM 1)) : ∃ L : List Nat, zC 88 0 = (L.length : Nat) ∧ L.length ≤ 30 ∧ (∀ x ∈ L, x < 30) ∧ Hld zC 108 L ∧ ∀ (K : Int → Hp → Prop), (∀ z' : Hp, Hld z' 16 L → (∀ c, c ≠ 16 → z' c = zM c) → K (L.length : Nat) z') → cal_X10_orders zM K := by
  have h1 := h.1
  have hn := h1.n
  obtain ⟨ab, sx, hab, hF, ⟨r6, r7, r8, r9⟩, hE, hCl, hrd⟩ := st
  rcases h.2.2.2.2.2.2.2 with ⟨a, _⟩ | ⟨_, _, ⟨L, hL, hH⟩, _⟩
  · omega
  have ok := OrdK.ok _ L hL
  have hgg := gOf_good h1
  refine ⟨L, ?_, by omega, fun x hx => by have := (ok.1 x hx).1; omega, hH, fun K k => ?_⟩
  · rw [ord_len hgg hn.2 hL]; exact hF.2.1
  · refine w_X10_orders (E := zC 100) hn.2 hn.1 r6 hgg.1 (fun e he => by rw [(hE.1 e he).1, (hE.1 e he).2.2.2.1]) (fun e he => by rw [(hE.1 e he).2.2.2.1]; have := hE.2.1.1 e; constructor <;> omega) (fun L' z' hL' hH' hf => ?_)
    have := OrdK.uq _ _ _ hL hL'
    subst this
    exact k z' hH' hf
theorem inv_16 {zC zM z' : Hp} (h : Inv zC zM) (e : ∀ c, c ≠ 16 → z' c = zM c) : Inv zC z' := h.scrM (fun c _ _ _ => e c (by omega)) (fun j _ _ _ _ _ => by rw [e 0 (by decide)])
theorem inv_op31 : op31 Inv := by
  intro a1 zC zM ha h
  refine w_settle h (fun z' h' h8 st _ => ?_)
  obtain ⟨L, l1, l2, l3, l4, l5⟩ := ords h' h8 st
  have bad : ¬ (0 ≤ a1 ∧ a1 < L.length) → cal_X10_order a1 zM (fun r' zM' => (-1 : Int) = r' ∧ Inv z' zM') := fun q => l5 _ (fun z'' hH hf => w_X10_isIn ha rg0 ⟨by omega, by omega⟩ (fun r => absurd r (by omega)) (fun _ => w_f rg0 ⟨rfl, inv_16 h' hf⟩))
  rw [l1]
  refine w_if ha (fun e => bad (by omega)) (fun e => ⟨ha, ⟨by omega, by omega⟩, w_ite (fun e' => bad (by omega)) (fun e' => ?_)⟩)
  obtain ⟨i, rfl⟩ : ∃ i : Nat, a1 = i := ⟨a1.toNat, by omega⟩
  rw [Int.toNat_natCast, l4 i (by omega)]
  refine ⟨⟨by omega, by omega⟩, l5 _ (fun z'' hH hf => w_X10_isIn ha rg0 ⟨by omega, by omega⟩ (fun _ => w_t rg1 ⟨⟨by omega, by omega⟩, ?_, inv_16 h' hf⟩) (fun r => absurd r (by omega)))⟩
  rw [Int.toNat_natCast, hH i (by omega)]
theorem Hld.b {z : Hp} {c : Nat} {L : List Nat} (h : Hld z c L) (hL : ∀ x ∈ L, x < 30) {j : Nat} (hj : j < L.length) : z c j = ((L.getD j 0 : Nat) : Int) ∧ L.getD j 0 < 30 := ⟨h j hj, hL _ (getD_mem hj)⟩
theorem inv_op37 : op37 Inv := by
  intro a1 a2 zC zM ha hb h
  unfold cal_X9_lay
  refine w_X2_isList (t := 136) ha (fun q => w_t rg1 ?_) (fun q => w_f rg0 (w_X10_isList ha (fun r => absurd r q) (fun _ => w_f rg0 ⟨rfl, h⟩)))
  obtain ⟨l, rfl⟩ : ∃ l : Nat, a1 = l := ⟨a1.toNat, by omega⟩
  have il : inb (l : Int) 4 := ⟨by omega, by omega⟩
  obtain ⟨k1, k2, k3, k4⟩ := h.2.2.2.2.2.1 l (by omega)
  have rsz : rg (zM 18 l) := ⟨by omega, by omega⟩
  rw [Int.toNat_natCast, k1]
  refine ⟨il, w_if rsz (fun e => ?_) (fun e => w_X10_isList ha (fun _ => w_t rg1 ⟨il, ?_⟩) (fun r => absurd q r))⟩
  rotate_left
  · rw [Int.toNat_natCast]
    exact w_if rsz (fun e' => absurd e' e) (fun _ => ⟨rfl, h⟩)
  refine w_settle h (fun z' h' h8 st _ => ?_)
  obtain ⟨k1, _, _, k4⟩ := h'.2.2.2.2.2.1 l (by omega)
  obtain ⟨L, l1, l2, l3, l4, l5⟩ := ords h' h8 st
  generalize hsz : zM 18 l = sz at *
  obtain ⟨J, hJ⟩ : ∃ J : Nat, J ≤ L.length ∧ (∀ j, j < J → 0 ≤ a2 ∧ a2 < sz - j) ∧ (J < L.length → ¬ (0 ≤ a2 ∧ a2 < sz - J)) := by
    by_cases c : a2 < 0
    · exact ⟨0, by omega, fun j hj => absurd hj (by omega), fun _ => by omega⟩
    · by_cases c2 : sz ≤ a2
      · exact ⟨0, by omega, fun j hj => absurd hj (by omega), fun _ => by omega⟩
      · by_cases c3 : (sz - a2).toNat ≤ L.length
        · exact ⟨(sz - a2).toNat, c3, fun j hj => by omega, fun _ => by omega⟩
        · exact ⟨L.length, by omega, fun j hj => by omega, fun hj => absurd hj (by omega)⟩
  obtain ⟨J1, J2, J3⟩ := hJ
  refine lt_i (LP1_for J (fun j x => (∀ i, i < j → x (138 + l) (a2.toNat + i) = ((L.getD i 0 : Nat) : Int)) ∧ (∀ i', (∀ i, i < j → i' ≠ a2.toNat + i) → x (138 + l) i' = z' (138 + l) i') ∧ ∀ c, c ≠ 138 + l → x c = z' c) 0 rfl (by omega) ⟨fun i hi => absurd hi (by omega), fun _ _ => rfl, fun _ _ => rfl⟩ (fun X j x hj hI hX => ?_) (fun X x hI => ?_))
  · obtain ⟨i1, i2, i3⟩ := hI
    have pj := J2 j hj
    have e88 : x 88 0 = (L.length : Nat) := by rw [i3 88 (by omega)]; exact l1
    rw [e88]
    refine w_if2 ⟨by omega, by omega⟩ ⟨by omega, by omega⟩ (fun e => absurd e (by omega)) (fun _ => ?_)
    refine w_hasPlace (t := 136) (by omega) hb (by show x 142 l = _; rw [i3 142 (by omega)]; exact k1) ⟨k2, k3⟩ (by omega) (fun _ => w_t rg1 ⟨il, ⟨by omega, by omega⟩, ⟨by omega, by omega⟩, hp_i (lt_i (hX _ ⟨fun i hi => ?_, fun i' hi' => ?_, fun c hc => ?_⟩))⟩) (fun r => absurd pj r)
    · rw [show (a2 + (j : Int)).toNat = a2.toNat + j by omega, show 137 + 1 + l = 138 + l from rfl, i3 108 (by omega), Int.toNat_natCast, l4 j (by omega)]
      by_cases g : i = j
      · subst g; exact kup_eq
      · rw [kup_n (fun q => g (by omega))]; exact i1 i (by omega)
    · rw [show (a2 + (j : Int)).toNat = a2.toNat + j by omega, kup_n (fun q => hi' j (by omega) q.2)]
      exact i2 i' (fun i hi => hi' i (by omega))
    · funext y; rw [kup_c (by omega), i3 c hc]
  obtain ⟨i1, i2, i3⟩ := hI
  have e88 : x 88 0 = (L.length : Nat) := by rw [i3 88 (by omega)]; exact l1
  have ref : ∀ K : Int → Hp → Prop, (∀ y : Hp, (∀ i, i < J → y 19 (40 * l + (a2.toNat + i)) = ((L.getD i 0 : Nat) : Int)) → (∀ i', (∀ i, i < J → i' ≠ 40 * l + (a2.toNat + i)) → y 19 i' = zM 19 i') → (∀ c, c ≠ 16 → c ≠ 19 → y c = zM c) → K (if J = L.length then (L.length : Int) else -13) y) → cal_X10_lay l a2 zM K := fun K hK => by
    refine w_X10_isList ha (fun _ => w_t rg1 ⟨il, ?_⟩) (fun r => absurd q r)
    rw [Int.toNat_natCast, hsz]
    refine w_if rsz (fun _ => l5 _ (fun z2 hH hf => lt_i (lt_i ?_))) (fun e' => absurd e e')
    have fin : ∀ y : Hp, (∀ i, i < J → y 19 (40 * l + (a2.toNat + i)) = ((L.getD i 0 : Nat) : Int)) → (∀ i', (∀ i, i < J → i' ≠ 40 * l + (a2.toNat + i)) → y 19 i' = zM 19 i') → (∀ c, c ≠ 16 → c ≠ 19 → y c = zM c) → rg (J : Int) ∧ rg ((L.length : Nat) : Int) ∧ (if ((L.length : Nat) : Int) ≤ (J : Int) then K (J : Int) y else K (-13) y) := fun y a b c => by
      have := hK y a b c
      refine w_if2 ⟨by omega, by omega⟩ ⟨by omega, by omega⟩ (fun e => ?_) (fun e => ?_)
      · rw [if_pos (by omega)] at this
        rw [show (J : Int) = (L.length : Int) by omega]; exact this
      · rw [if_neg (by omega)] at this; exact this
    refine LP1_for J (fun j y => (∀ i, i < j → y 19 (40 * l + (a2.toNat + i)) = ((L.getD i 0 : Nat) : Int)) ∧ (∀ i', (∀ i, i < j → i' ≠ 40 * l + (a2.toNat + i)) → y 19 i' = zM 19 i') ∧ (∀ c, c ≠ 16 → c ≠ 19 → y c = zM c) ∧ Hld y 16 L) 0 rfl (by omega) ⟨fun i hi => absurd hi (by omega), fun _ _ => by rw [hf 19 (by decide)], fun c c0 _ => hf c c0, hH⟩ (fun X j y hj hI hX => ?_) (fun X y hI => ?_)
    · obtain ⟨m1, m2, m3, m4⟩ := hI
      have pj := J2 j hj
      refine jn_i (fun _ => True) trivial (fun J10 _ => w_if2 ⟨by omega, by omega⟩ ⟨by omega, by omega⟩ (fun e => absurd e (by omega)) (fun _ => ⟨il, ?_⟩))
      rw [Int.toNat_natCast, m3 18 (by decide) (by decide), hsz]
      refine w_X10_isIn hb rg0 ⟨by omega, by omega⟩ (fun _ => w_t rg1 ⟨⟨by omega, by omega⟩, ⟨by omega, by omega⟩, hp_i (lt_i (hX _ ⟨fun i hi => ?_, fun i' hi' => ?_, fun c c0 c1 => ?_, fun i hi => ?_⟩))⟩) (fun r => absurd r (by omega))
      · rw [show (40 * (l : Int) + a2 + (j : Int)).toNat = 40 * l + (a2.toNat + j) by omega, m4 j (by omega)]
        by_cases g : i = j
        · subst g; exact kup_eq
        · rw [kup_n (fun q => g (by omega))]; exact m1 i (by omega)
      · rw [show (40 * (l : Int) + a2 + (j : Int)).toNat = 40 * l + (a2.toNat + j) by omega, kup_n (fun q => hi' j (by omega) q.2)]
        exact m2 i' (fun i hi => hi' i (by omega))
      · funext w; rw [kup_c c1, m3 c c0 c1]
      · rw [kup_c (by decide)]; exact m4 i hi
    · obtain ⟨m1, m2, m3, m4⟩ := hI
      refine jn_i (fun J' => J' (J : Int) y) (fin y m1 m2 m3) (fun J10 hJ10 => w_if2 ⟨by omega, by omega⟩ ⟨by omega, by omega⟩ (fun _ => hJ10) (fun e => ⟨il, ?_⟩))
      rw [Int.toNat_natCast, m3 18 (by decide) (by decide), hsz]
      have := J3 (by omega)
      exact w_X10_isIn hb rg0 ⟨by omega, by omega⟩ (fun r => absurd r (by omega)) (fun _ => w_f rg0 hJ10)
  have done : ∀ y : Hp, (∀ i, i < J → y 19 (40 * l + (a2.toNat + i)) = ((L.getD i 0 : Nat) : Int)) → (∀ i', (∀ i, i < J → i' ≠ 40 * l + (a2.toNat + i)) → y 19 i' = zM 19 i') → (∀ c, c ≠ 16 → c ≠ 19 → y c = zM c) → Inv x y := fun y a b c => by
    refine h'.upd (fun c p q => i3 c (by omega)) (fun j _ => by rw [i3 0 (by omega)]) (fun c q => i3 c (by omega)) (c 1 (by decide) (by decide)) (c 2 (by decide) (by decide)) (fun d p q => c d (by omega) (by omega)) (fun j _ => by rw [c 0 (by decide) (by decide)]) (h'.2.2.2.1.to (i3 81 (by omega)) (i3 82 (by omega)) (c 3 (by decide) (by decide)) (by rw [c 0 (by decide) (by decide)])) (h'.2.2.2.2.1.to (i3 83 (by omega)) (i3 84 (by omega)) (c 4 (by decide) (by decide)) (by rw [c 0 (by decide) (by decide)])) (fun l' hl' => ?_)
    obtain ⟨n1, n2, n3, n4⟩ := h'.2.2.2.2.2.1 l' hl'
    rw [i3 142 (by omega), c 18 (by decide) (by decide)]
    refine ⟨n1, n2, n3, fun i hi => ?_⟩
    by_cases g : l' = l
    · subst g
      by_cases g2 : ∃ i0, i0 < J ∧ i = a2.toNat + i0
      · obtain ⟨i0, g3, rfl⟩ := g2
        have lb := l3 _ (getD_mem (show i0 < L.length by omega))
        rw [i1 i0 g3, a i0 g3]
        exact ⟨rfl, by omega, by omega⟩
      · rw [i2 i (fun i0 h0 e => g2 ⟨i0, h0, e⟩), b (40 * l' + i) (fun i0 h0 e => g2 ⟨i0, h0, by omega⟩)]
        exact n4 i hi
    · have hi40 : i < 40 := by omega
      rw [i3 (138 + l') (by omega), b (40 * l' + i) (fun i0 h0 e => by have := J2 i0 h0; omega)]
      exact n4 i hi
  rw [e88]
  refine w_if2 ⟨by omega, by omega⟩ ⟨by omega, by omega⟩ (fun e => ref _ (fun y a b c => ?_)) (fun e => ?_)
  · rw [if_pos (by omega)]
    exact ⟨rfl, done y a b c⟩
  · refine w_hasPlace (t := 136) (by omega) hb (by show x 142 l = _; rw [i3 142 (by omega)]; exact k1) ⟨k2, k3⟩ (by omega) (fun r => absurd r (J3 (by omega))) (fun r => w_f rg0 (ref _ (fun y a b c => ?_)))
    rw [if_neg (by omega)]
    exact ⟨rfl, done y a b c⟩
theorem inv_op38 : op38 Inv := by
  intro a1 a2 zC zM ha hb h
  unfold cal_X9_judge
  refine w_X2_isList (t := 136) ha (fun q => w_t rg1 ?_) (fun q => w_f rg0 (w_X10_isList ha (fun r => absurd r q) (fun _ => w_f rg0 ⟨rfl, h⟩)))
  obtain ⟨l, rfl⟩ : ∃ l : Nat, a1 = l := ⟨a1.toNat, by omega⟩
  have il : inb (l : Int) 4 := ⟨by omega, by omega⟩
  obtain ⟨k1, k2, k3, k4⟩ := h.2.2.2.2.2.1 l (by omega)
  have rsz : rg (zM 18 l) := ⟨by omega, by omega⟩
  rw [Int.toNat_natCast, k1]
  refine ⟨il, w_if rsz (fun e => ?_) (fun e => w_X10_isList ha (fun _ => w_t rg1 ⟨il, ?_⟩) (fun r => absurd q r))⟩
  rotate_left
  · rw [Int.toNat_natCast]
    exact w_if rsz (fun e' => absurd e' e) (fun _ => ⟨rfl, h⟩)
  refine w_settle h (fun z' h' h8 st _ => ?_)
  obtain ⟨k1, _, _, k4⟩ := h'.2.2.2.2.2.1 l (by omega)
  obtain ⟨L, l1, l2, l3, l4, l5⟩ := ords h' h8 st
  generalize hsz : zM 18 l = sz at *
  have lg : ∀ j, j < L.length → ((L.getD j 0 : Nat) : Int) < 30 := fun j hj => by have := l3 _ (getD_mem hj); omega
  have ref : ∀ (K : Int → Hp → Prop) (v : Int) (j : Nat), j ≤ L.length → (∀ i, i < j → (0 ≤ a2 ∧ a2 < sz - i) ∧ zM 19 (40 * l + (a2.toNat + i)) = ((L.getD i 0 : Nat) : Int)) → ((j = L.length ∧ v = -5) ∨ (j < L.length ∧ ¬ (0 ≤ a2 ∧ a2 < sz - j) ∧ v = 100 + j) ∨ (j < L.length ∧ (0 ≤ a2 ∧ a2 < sz - j) ∧ zM 19 (40 * l + (a2.toNat + j)) ≠ ((L.getD j 0 : Nat) : Int) ∧ v = j)) → (∀ z'' : Hp, (∀ c, c ≠ 16 → z'' c = zM c) → K v z'') → cal_X10_judge l a2 zM K := fun K v j jl hpre hend hK => by
    refine w_X10_isList ha (fun _ => w_t rg1 ⟨il, ?_⟩) (fun r => absurd q r)
    rw [Int.toNat_natCast, hsz]
    refine w_if rsz (fun _ => l5 _ (fun z2 hH hf => lt_i (lt_i ?_))) (fun e' => absurd e e')
    have hk := hK z2 hf
    refine LQ1_for j (fun _ => True) 0 rfl (by omega) trivial (fun X i hi _ hX => ?_) (fun X _ => ?_)
    · obtain ⟨p1, p2⟩ := hpre i hi
      refine w_if2 ⟨by omega, by omega⟩ ⟨by omega, by omega⟩ (fun e => absurd e (by omega)) (fun _ => ⟨il, ?_⟩)
      rw [Int.toNat_natCast, hf 18 (by decide), hsz]
      refine w_X10_isIn hb rg0 ⟨by omega, by omega⟩ (fun _ => w_t rg1 ⟨⟨by omega, by omega⟩, ⟨by omega, by omega⟩, ?_⟩) (fun r => absurd r (by omega))
      have lgi := lg i (by omega)
      rw [show (40 * (l : Int) + a2 + (i : Int)).toNat = 40 * l + (a2.toNat + i) by omega, hf 19 (by decide), hH i (by omega), p2]
      exact w_if2 ⟨by omega, by omega⟩ ⟨by omega, by omega⟩ (fun _ => lt_i (hX trivial)) (fun r => absurd rfl r)
    · rcases hend with ⟨e1, rfl⟩ | ⟨e1, e2, rfl⟩ | ⟨e1, e2, e3, rfl⟩
      · exact w_if2 ⟨by omega, by omega⟩ ⟨by omega, by omega⟩ (fun _ => hk) (fun r => absurd r (by omega))
      · refine w_if2 ⟨by omega, by omega⟩ ⟨by omega, by omega⟩ (fun r => absurd r (by omega)) (fun _ => ⟨il, ?_⟩)
        rw [Int.toNat_natCast, hf 18 (by decide), hsz]
        exact w_X10_isIn hb rg0 ⟨by omega, by omega⟩ (fun r => absurd r (by omega)) (fun _ => w_f rg0 hk)
      · refine w_if2 ⟨by omega, by omega⟩ ⟨by omega, by omega⟩ (fun r => absurd r (by omega)) (fun _ => ⟨il, ?_⟩)
        rw [Int.toNat_natCast, hf 18 (by decide), hsz]
        refine w_X10_isIn hb rg0 ⟨by omega, by omega⟩ (fun _ => w_t rg1 ⟨⟨by omega, by omega⟩, ⟨by omega, by omega⟩, ?_⟩) (fun r => absurd r (by omega))
        have lgi := lg j e1
        have kk := k4 (a2.toNat + j) (by omega)
        rw [show (40 * (l : Int) + a2 + (j : Int)).toNat = 40 * l + (a2.toNat + j) by omega, hf 19 (by decide), hH j (by omega)]
        exact w_if2 kk.2 ⟨by omega, by omega⟩ (fun r => absurd r e3) (fun _ => hk)
  refine lt_i (LQ1_for L.length (fun j => ∀ i, i < j → (0 ≤ a2 ∧ a2 < sz - i) ∧ zM 19 (40 * l + (a2.toNat + i)) = ((L.getD i 0 : Nat) : Int)) 0 rfl (by omega) (fun i hi => absurd hi (by omega)) (fun X j hj hI hX => ?_) (fun X hI => ?_))
  · rw [l1]
    refine w_if2 ⟨by omega, by omega⟩ ⟨by omega, by omega⟩ (fun e => absurd e (by omega)) (fun _ => ?_)
    refine w_hasPlace (t := 136) (by omega) hb k1 ⟨k2, k3⟩ (by omega) (fun pl => w_t rg1 ⟨il, ⟨by omega, by omega⟩, ⟨by omega, by omega⟩, ?_⟩) (fun r => w_f rg0 (ref _ _ j (by omega) hI (Or.inr (Or.inl ⟨hj, r, rfl⟩)) (fun z'' hf => ⟨rfl, inv_16 h' hf⟩)))
    have lgi := lg j hj
    have kk := k4 (a2.toNat + j) (by omega)
    rw [show (a2 + (j : Int)).toNat = a2.toNat + j by omega, show 137 + 1 + l = 138 + l from rfl, Int.toNat_natCast, l4 j (by omega), kk.1]
    refine w_if2 kk.2 ⟨by omega, by omega⟩ (fun e1 => lt_i (hX (fun i hi => ?_))) (fun e1 => ref _ _ j (by omega) hI (Or.inr (Or.inr ⟨hj, pl, e1, rfl⟩)) (fun z'' hf => ⟨rfl, inv_16 h' hf⟩))
    by_cases g : i = j
    · subst g; exact ⟨pl, e1⟩
    · exact hI i (by omega)
  · rw [l1]
    exact w_if2 ⟨by omega, by omega⟩ ⟨by omega, by omega⟩ (fun _ => ref _ _ L.length (by omega) hI (Or.inl ⟨rfl, rfl⟩) (fun z'' hf => ⟨rfl, inv_16 h' hf⟩)) (fun e => absurd e (by omega))
