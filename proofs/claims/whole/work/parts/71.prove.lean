/-! proofs as texts -/
def lnk (r : Int) : List Int := if r < 100 then dig r else 76 :: dig (r - 100)
def prL (st : RSt) (e : Nat) : Nat → List Int
  | 0 => []
  | j + 1 => (prL st e j ++ (if j = 0 then [] else [60])) ++ lnk (rR st (chn st e j).toNat)
theorem lnk_len {r : Int} (h : 0 ≤ r ∧ r < 160) : (lnk r).length ≤ 3 := by
  unfold lnk
  by_cases c : r < 100
  · rw [if_pos c]; have := (dig_len r).2.2 c; omega
  · rw [if_neg c, List.length_cons]; have := (dig_len (r - 100)).2.2 (by omega); omega
theorem prL_len {st : RSt} {e : Nat} : ∀ j, (∀ i, i < j → act st (chn st e i) ∧ rR st (chn st e i).toNat < 160) → (prL st e j).length ≤ 4 * j
  | 0, _ => Nat.le_refl _
  | j + 1, h => by
    have ih := prL_len j (fun i hi => h i (by omega))
    have hj := h j (by omega)
    have := lnk_len ⟨hj.1.2, hj.2⟩
    rw [prL, List.length_append, List.length_append]
    have : (if j = 0 then ([] : List Int) else [60]).length ≤ 1 := by split <;> simp
    omega
/-- the text ends at j -/
def PrE (st : RSt) (e j : Nat) : Prop := j ≤ 100 ∧ (∀ i, i < j → act st (chn st e i)) ∧ (j = 100 ∨ ¬ act st (chn st e j))
theorem PrE.uq {st : RSt} {e j j' : Nat} (h : PrE st e j) (h' : PrE st e j') : j = j' := by
  obtain ⟨a1, a2, a3⟩ := h
  obtain ⟨b1, b2, b3⟩ := h'
  rcases Nat.lt_trichotomy j j' with q | q | q
  · exact absurd (b2 j q) (a3.resolve_left (by omega))
  · exact q
  · exact absurd (a2 j' q) (b3.resolve_left (by omega))
theorem act_lt {st : RSt} {e i : Nat} (hok : ROk st) (he : e < 240) (h : act st (chn st e i)) : 0 ≤ chn st e i ∧ chn st e i < 240 ∧ 0 ≤ rR st (chn st e i).toNat ∧ rR st (chn st e i).toNat < 160 := by
  have b := chn_bd hok he i
  have h0 := h.1
  have h1 := h.2
  rcases hok (chn st e i).toNat (by omega) with q | q
  · omega
  · exact ⟨h0, by omega, h1, q.2.1⟩
theorem PrE.ex {st : RSt} {e : Nat} : ∃ j, PrE st e j := by
  have gen : ∀ d k, k + d = 100 → (∀ i, i < k → act st (chn st e i)) → ∃ j, PrE st e j := fun d => by
    induction d with
    | zero => exact fun k hk h => ⟨k, by omega, h, Or.inl (by omega)⟩
    | succ d ih =>
      intro k hk h
      by_cases c : 0 ≤ chn st e k ∧ 0 ≤ rR st (chn st e k).toNat
      · refine ih (k + 1) (by omega) (fun i hi => ?_)
        by_cases g : i = k
        · subst g; exact c
        · exact h i (by omega)
      · exact ⟨k, by omega, h, Or.inr c⟩
  exact gen 100 0 rfl (fun i hi => absurd hi (by omega))
theorem chn_one {st : RSt} {x : Nat} : chn st x 1 = rF st x := by
  rw [chn]
  have : ¬ chn st x 0 < 0 := by show ¬ (x : Int) < 0; omega
  rw [if_neg this]
  show rF st ((x : Int)).toNat = _
  rw [Int.toNat_natCast]
set_option maxHeartbeats 1000000 in
theorem w_X3_proveInto {e N : Nat} {st : RSt} {z : Hp} {K : Hp → Prop} (hE : ClsE z 99 st) (hok : ROk st) (he : e < 240) (hN : PrE st e N) (hT : Txt z 83 []) (k : ∀ z' : Hp, Txt z' 83 (prL st e N) → TF 83 z z' → K z') : cal_X3_proveInto 99 83 e z K := by
  obtain ⟨N1, N2, N3⟩ := hN
  have len : ∀ j, j ≤ N → (prL st e j).length ≤ 4 * j := fun j hj => prL_len j (fun i hi => ⟨N2 i (by omega), (act_lt hok he (N2 i (by omega))).2.2.2⟩)
  refine w_X3_follow (k := 0) hE hok he (by omega) (lt_i (lt_i ?_))
  refine LP2_for N (fun j v z' => v = fol st (chn st e j) ∧ Txt z' 83 (prL st e j) ∧ TF 83 z z') 0 rfl (by omega) ⟨rfl, hT, TF.rf⟩ (fun X j v z1 hj hI hX => ?_) (fun X v z1 hI => ?_)
  · obtain ⟨rfl, i2, i3⟩ := hI
    have ac := N2 j hj
    obtain ⟨c0, c1, c2, c3⟩ := act_lt hok he ac
    have ef : fol st (chn st e j) = chn st e j := by unfold fol; exact if_pos ac
    have lj := len j (by omega)
    rw [ef]
    obtain ⟨x, hx⟩ : ∃ x : Nat, chn st e j = x := ⟨(chn st e j).toNat, by omega⟩
    have ex : prL st e (j + 1) = (prL st e j ++ (if j = 0 then [] else [60])) ++ lnk (rR st x) := by rw [prL, hx, Int.toNat_natCast]
    have hX' : ∀ z', Txt z' 83 (prL st e (j + 1)) → TF 83 z z' → X (fol st (chn st e (j + 1))) ((j : Int) + 1) z' := fun z' a b => hX _ z' ⟨rfl, a, b⟩
    rw [ex] at hX'
    rw [hx] at c0 c1 c2 c3 ⊢
    rw [Int.toNat_natCast] at c2 c3
    have ix : inb (x : Int) 242 := ⟨by omega, by omega⟩
    have l60 : ((if j = 0 then ([] : List Int) else [60])).length ≤ 1 := by split <;> simp
    refine w_if ⟨by omega, by omega⟩ (fun q => absurd q (by omega)) (fun _ => w_if ⟨by omega, by omega⟩ (fun q => absurd q (by omega)) (fun _ => ?_))
    refine jn_i (fun J => ∀ z', Txt z' 83 (prL st e j ++ (if j = 0 then [] else [60])) → TF 83 z z' → J z') (fun z2 t2 f2 => ⟨ix, ?_⟩) (fun J hJ => w_if ⟨by omega, by omega⟩ (fun q => ?_) (fun q => ?_))
    rotate_left
    · rw [if_pos (by omega), List.append_nil] at hJ; exact hJ z1 i2 i3
    · rw [if_neg (by omega)] at hJ
      exact w_put i2 (by rw [klT83]; omega) (by rw [klT83]; omega) ⟨by decide, by decide⟩ (fun z' a b => hJ z' a (i3.tr b))
    generalize hL1 : prL st e j ++ (if j = 0 then [] else [60]) = L1 at *
    have l1 : L1.length ≤ 4 * j + 1 := by rw [← hL1, List.length_append]; omega
    have E2 : ClsE z2 99 st := fun y hy => by rw [f2.2 (99 + 2) (by omega) (by omega), f2.2 (99 + 3) (by omega) (by omega)]; exact hE y hy
    have vr : z2 (99 + 2) (x : Int).toNat = rR st x := by
      rw [Int.toNat_natCast, (E2 x (by omega)).1]
      unfold en
      rw [if_neg (by omega)]
    rw [vr]
    have lk := lnk_len ⟨c2, c3⟩
    refine jn_i (fun J => ∀ z', Txt z' 83 (L1 ++ lnk (rR st x)) → TF 83 z z' → J z') (fun z3 t3 f3 => ?_) (fun J hJ => w_if ⟨by omega, by omega⟩ (fun q => ⟨ix, ?_⟩) (fun q => ?_))
    · have E3 : ClsE z3 99 st := fun y hy => by rw [f3.2 (99 + 2) (by omega) (by omega), f3.2 (99 + 3) (by omega) (by omega)]; exact hE y hy
      refine w_X3_follow (k := 1) E3 hok (show x < 240 by omega) (by omega) (lt_i (lt_i ?_))
      rw [chn_one]
      have := hX' z3 t3 f3
      rw [chn, hx, if_neg (by omega), Int.toNat_natCast] at this
      exact this
    · have e1 : lnk (rR st x) = dig (rR st x) := by unfold lnk; rw [if_pos q]
      rw [e1] at hJ lk
      exact w_putNumber t2 ⟨c2, by omega⟩ (by rw [klT83]; omega) (by rw [klT83]; omega) (fun z' a b => hJ z' a (f2.tr b))
    · have e1 : lnk (rR st x) = 76 :: dig (rR st x - 100) := by unfold lnk; rw [if_neg q]
      rw [e1] at hJ lk
      rw [List.length_cons] at lk
      refine w_put t2 (by rw [klT83]; omega) (by rw [klT83]; omega) ⟨by decide, by decide⟩ (fun z' a b => ⟨ix, ?_⟩)
      have vr3 : z' (99 + 2) (x : Int).toNat = rR st x := by rw [b.2 (99 + 2) (by omega) (by omega)]; exact vr
      rw [vr3]
      refine w_putNumber a ⟨by omega, by omega⟩ (by rw [klT83, List.length_append, List.length_singleton]; omega) (by rw [klT83]; omega) (fun z'' a' b' => hJ z'' ?_ (f2.tr (b.tr b')))
      rw [List.append_assoc] at a'
      exact a'
  · obtain ⟨rfl, i2, i3⟩ := hI
    refine w_if ⟨by omega, by omega⟩ (fun _ => k z1 i2 i3) (fun q => ?_)
    have na := N3.resolve_left (by omega)
    have ef : fol st (chn st e N) = -1 := by unfold fol; exact if_neg na
    rw [ef]
    exact ⟨⟨by decide, by decide⟩, by rw [if_pos (by decide)]; exact k z1 i2 i3⟩
set_option maxHeartbeats 1000000 in
theorem inv_op16 : op16 Inv := by
  intro a1 a2 a3 zC zM ha hb hc h
  have h1 := h.1
  have hn := h1.n
  have b0 := h.2.1.1
  obtain ⟨r0, r1, r2, r3⟩ := rgS h1
  unfold cal_X9_prove
  refine w_X9_isEnd ha hb hc (by rw [b0]; exact r0) (fun q => w_t rg1 ?_) (fun q => w_f rg0 ?_)
  rotate_left
  · rw [b0] at q
    exact w_X10_isEnd ha hb hc r2 (fun r => absurd r q) (fun _ => w_f rg0 ⟨rfl, h⟩)
  rw [b0] at q
  refine w_settle h (fun z' h' _ st _ => hp_i ?_)
  have q' := q
  rw [hn.1] at q'
  obtain ⟨p, w, s, rfl, rfl, rfl, hp, hw, hs⟩ := isEnd_nat q'
  obtain ⟨ab, sx, hab, hF, ⟨r6, _⟩, hE, hCl, hrd⟩ := st
  have gp := h1.g30 hp
  have f1 : TF 83 z' (kup z' 83 1 0) := ⟨fun j hj => kup_n (fun r => hj r.2), fun c c0 _ => by funext i; exact kup_c c0⟩
  have t1 : Txt (kup z' 83 1 0) 83 [] := Txt.nil
  generalize kup z' 83 1 0 = z1 at *
  have R1 : Row z1 (86 + 2 + 1) (gOf (zM 1)) := Row.to hF.2.2.2.1 (f1.2 89 (by omega) (by omega))
  refine w_personEnd (r := 86) (g := gOf (zM 1)) R1 (by omega) ?_
  generalize hee : 2 * (2 * gOf (zM 1) p + w) + s = e at *
  have he : e < 240 := by omega
  have cE : ClsE z1 99 sx := fun y hy => by rw [f1.2 (99 + 2) (by omega) (by omega), f1.2 (99 + 3) (by omega) (by omega)]; exact ⟨(hE.1 y hy).2.2.2.2.1, (hE.1 y hy).2.2.2.2.2⟩
  have hok := hE.2.2
  obtain ⟨N, hN⟩ := PrE.ex (st := sx) (e := e)
  refine w_X3_proveInto cE hok he hN t1 (fun z2 t2 f2 => ?_)
  obtain ⟨N1, N2, N3⟩ := hN
  have len : ∀ j, j ≤ N → (prL sx e j).length ≤ 4 * j := fun j hj => prL_len j (fun i hi => ⟨N2 i (by omega), (act_lt hok he (N2 i (by omega))).2.2.2⟩)
  have lN := len N (Nat.le_refl _)
  refine w_X10_isEnd ha hb hc r2 (fun _ => w_t rg1 (hp_i ?_)) (fun r => absurd q r)
  have tm : TxM (kup zM 0 7 0) [] := TxM.nil
  have fm : MF zM (kup zM 0 7 0) := ⟨fun j hj => kup_n (fun r => hj r.2), fun c c0 _ => by funext i; exact kup_c c0⟩
  generalize kup zM 0 7 0 = m1 at *
  refine w_endOf (r6.to (fm.2 6 (by decide) (by decide))) (by omega) (lt_i (lt_i ?_))
  rw [hee]
  have fin : ∀ y : Hp, TxM y (prL sx e N) → MF zM y → (z2 83 1 = y 0 7 ∧ Inv z2 y) := fun y ty fy => by
    refine ⟨by rw [t2.1, ty.1], ?_⟩
    have fC := f1.tr f2
    have e0 : ∀ c, c ≠ 83 → c ≠ 84 → z2 c = z' c := fun c a b => fC.2 c a b
    refine h'.upd (fun c a b => e0 c (by omega) (by omega)) (fun j _ => by rw [e0 0 (by decide) (by decide)]) (fun c a => e0 c (by omega) (by omega)) (fy.2 1 (by decide) (by decide)) (fy.2 2 (by decide) (by decide)) (fun c a b => fy.2 c (by omega) (by omega)) (fun j hj => fy.1 j (by omega)) (h'.2.2.2.1.to (e0 81 (by decide) (by decide)) (e0 82 (by decide) (by decide)) (fy.2 3 (by decide) (by decide)) (fy.1 6 (by decide))) (IPp.of (by omega) t2 ty) (h'.2.2.2.2.2.1.to (fun c a b => e0 c (by omega) (by omega)) (fy.2 18 (by decide) (by decide)) (fy.2 19 (by decide) (by decide)))
  have mE : ∀ y : Hp, MF zM y → ∀ x, x < 240 → y 11 x = rR sx x ∧ y 12 x = rF sx x := fun y fy x hx => by rw [fy.2 11 (by decide) (by decide), fy.2 12 (by decide) (by decide)]; exact ⟨(hE.1 x hx).2.1, (hE.1 x hx).2.2.1⟩
  refine LP2_for N (fun j v y => v = chn sx e j ∧ TxM y (prL sx e j) ∧ MF zM y) 0 rfl (by omega) ⟨rfl, tm, fm⟩ (fun X j v y hj hI hX => ?_) (fun X v y hI => ?_)
  · obtain ⟨rfl, i2, i3⟩ := hI
    have ac := N2 j hj
    obtain ⟨c0, c1, c2, c3⟩ := act_lt hok he ac
    have lj := len j (by omega)
    obtain ⟨x, hx⟩ : ∃ x : Nat, chn sx e j = x := ⟨(chn sx e j).toNat, by omega⟩
    have ex : prL sx e (j + 1) = (prL sx e j ++ (if j = 0 then [] else [60])) ++ lnk (rR sx x) := by rw [prL, hx, Int.toNat_natCast]
    have hX' : ∀ y', TxM y' (prL sx e (j + 1)) → MF zM y' → X (chn sx e (j + 1)) ((j : Int) + 1) y' := fun y' a b => hX _ y' ⟨rfl, a, b⟩
    rw [ex] at hX'
    rw [hx] at c0 c1 c2 c3 ⊢
    rw [Int.toNat_natCast] at c2 c3
    have ix : inb (x : Int) 240 := ⟨by omega, by omega⟩
    have l60 : ((if j = 0 then ([] : List Int) else [60])).length ≤ 1 := by split <;> simp
    have vr : ∀ y : Hp, MF zM y → y 11 (x : Int).toNat = rR sx x := fun y fy => by rw [Int.toNat_natCast]; exact (mE y fy x (by omega)).1
    have vf : ∀ y : Hp, MF zM y → y 12 (x : Int).toNat = rF sx x := fun y fy => by rw [Int.toNat_natCast]; exact (mE y fy x (by omega)).2
    refine w_if ⟨by omega, by omega⟩ (fun q => absurd q (by omega)) (fun _ => w_if ⟨by omega, by omega⟩ (fun q => absurd q (by omega)) (fun _ => ⟨ix, ?_⟩))
    rw [vr y i3]
    refine w_if ⟨by omega, by omega⟩ (fun q => absurd q (by omega)) (fun _ => ?_)
    refine jn_i (fun J => ∀ y', TxM y' (prL sx e j ++ (if j = 0 then [] else [60])) → MF zM y' → J y') (fun y2 t2' f2' => ⟨ix, ?_⟩) (fun J hJ => w_if ⟨by omega, by omega⟩ (fun q => ?_) (fun q => ?_))
    rotate_left
    · rw [if_pos (by omega), List.append_nil] at hJ; exact hJ y i2 i3
    · rw [if_neg (by omega)] at hJ
      exact w_writes i2 (by omega) (fun y' a b => hJ y' a (i3.tr b))
    generalize hL1 : prL sx e j ++ (if j = 0 then [] else [60]) = L1 at *
    have l1 : L1.length ≤ 4 * j + 1 := by rw [← hL1, List.length_append]; omega
    have lk := lnk_len ⟨c2, c3⟩
    rw [vr y2 f2']
    refine jn_i (fun J => ∀ y', TxM y' (L1 ++ (if rR sx x < 100 then [] else [76])) → MF zM y' → J y') (fun y3 t3 f3 => ⟨ix, ?_⟩) (fun J hJ => w_if ⟨by omega, by omega⟩ (fun q => ?_) (fun q => ?_))
    · rw [vr y3 f3]
      have el : lnk (rR sx x) = (if rR sx x < 100 then [] else [76]) ++ dig (rR sx x % 100) := by
        unfold lnk
        by_cases c : rR sx x < 100
        · rw [if_pos c, if_pos c, show rR sx x % 100 = rR sx x by omega]; rfl
        · rw [if_neg c, if_neg c, show rR sx x % 100 = rR sx x - 100 by omega]; rfl
      have ll : (lnk (rR sx x)).length = (if rR sx x < 100 then ([] : List Int) else [76]).length + (dig (rR sx x % 100)).length := by rw [el, List.length_append]
      refine ⟨⟨by omega, by omega⟩, w_writesNumber 5 t3 ⟨by omega, by omega⟩ (by omega) (by rw [List.length_append]; omega) (fun y4 t4 f4 => ⟨ix, ?_⟩)⟩
      have f4' := f3.tr f4
      rw [vf y4 f4']
      refine lt_i (lt_i ?_)
      have := hX' y4 (by rw [el, ← List.append_assoc]; exact t4) f4'
      rw [chn, hx, if_neg (by omega), Int.toNat_natCast] at this
      exact this
    · rw [if_pos q, List.append_nil] at hJ; exact hJ y2 t2' f2'
    · rw [if_neg q] at hJ
      exact w_writes t2' (by omega) (fun y' a b => hJ y' a (f2'.tr b))
  · obtain ⟨rfl, i2, i3⟩ := hI
    have fy := fin y i2 i3
    refine w_if ⟨by omega, by omega⟩ (fun _ => fy) (fun q => ?_)
    have na := N3.resolve_left (by omega)
    rcases chn_bd hok he N with c | ⟨c0, c1⟩
    · rw [c]; exact ⟨⟨by decide, by decide⟩, by rw [if_pos (by decide)]; exact fy⟩
    · refine w_if ⟨by omega, by omega⟩ (fun q => absurd q (by omega)) (fun _ => ⟨⟨by omega, by omega⟩, ?_⟩)
      rw [(mE y i3 (chn sx e N).toNat (by omega)).1]
      have nr : rR sx (chn sx e N).toNat < 0 := Decidable.byContradiction fun r => na ⟨c0, by omega⟩
      rcases hok (chn sx e N).toNat (by omega) with r | r
      · rw [r.1]; exact ⟨⟨by decide, by decide⟩, by rw [if_pos (by decide)]; exact fy⟩
      · omega
