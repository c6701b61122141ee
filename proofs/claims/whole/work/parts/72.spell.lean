/-! statements as texts -/
def num (v : Int) : List Int := if v < 0 then [] else 32 :: dig v
theorem num_len {v : Int} : (num v).length ≤ 5 := by
  unfold num
  split
  · exact Nat.zero_le _
  · rw [List.length_cons]; have := (dig_len v).1; omega
def nu (S : Nat → Int) (t : Nat) : Nat → List Int
  | 0 => []
  | j + 1 => if j = 0 then [] else nu S t j ++ num (S (242 + 6 * t + j))
theorem nu_len {S : Nat → Int} {t : Nat} : ∀ j, (nu S t j).length ≤ 5 * j
  | 0 => Nat.le_refl _
  | j + 1 => by
    have ih := nu_len (S := S) (t := t) j
    unfold nu
    split
    · exact Nat.zero_le _
    · rw [List.length_append]; have := num_len (v := S (242 + 6 * t + j)); omega
def S_ok (v : Int) : Prop := v = -5 ∨ (0 ≤ v ∧ v ≤ 3000)
theorem w_spellNumber {v : Int} {L : List Int} {z : Hp} {K : Hp → Prop} (h : Txt z 83 L) (hv : v = -5 ∨ (0 ≤ v ∧ v ≤ 3000)) (hl : L.length + 5 ≤ 400) (k : ∀ z' : Hp, Txt z' 83 (L ++ num v) → TF 83 z z' → K z') : cal_X0_spellNumber 83 v z K := by
  unfold cal_X0_spellNumber
  refine w_if (by rcases hv with rfl | hv <;> constructor <;> omega) (fun e => ?_) (fun e => ?_)
  · have : num v = [] := by unfold num; rw [if_pos (by omega)]
    rw [this, List.append_nil] at k
    exact k z h TF.rf
  · have : num v = 32 :: dig v := by unfold num; rw [if_neg (by omega)]
    rw [this] at k
    have dl := (dig_len v).1
    refine w_put h (by rw [klT83]; omega) (by rw [klT83]; omega) ⟨by decide, by decide⟩ (fun z1 t1 f1 => w_putNumber t1 ⟨by omega, by omega⟩ (by rw [klT83, List.length_append, List.length_singleton]; omega) (by rw [klT83]; omega) (fun z2 t2 f2 => k z2 ?_ (f1.tr f2)))
    rw [List.append_assoc] at t2
    exact t2
theorem klet_tx : ∀ s, s < 8 → kletL.getD s 0 = (kTx 23).getD s 0 ∧ by8 (kletL.getD s 0) := by decide
theorem Inv.paper {zC zM z' y : Hp} {L : List Int} (h : Inv zC zM) (hl : L.length ≤ 400) (tC : Txt z' 83 L) (fC : TF 83 zC z') (tM : TxM y L) (fM : MF zM y) : Inv z' y :=
  h.upd (fun c a b => fC.2 c (by omega) (by omega)) (fun j _ => by rw [fC.2 0 (by decide) (by decide)]) (fun c a => fC.2 c (by omega) (by omega)) (fM.2 1 (by decide) (by decide)) (fM.2 2 (by decide) (by decide)) (fun c a b => fM.2 c (by omega) (by omega)) (fun j hj => fM.1 j (by omega)) (h.2.2.2.1.to (fC.2 81 (by decide) (by decide)) (fC.2 82 (by decide) (by decide)) (fM.2 3 (by decide) (by decide)) (fM.1 6 (by decide))) (IPp.of hl tC tM) (h.2.2.2.2.2.1.to (fun c a b => fC.2 c (by omega) (by omega)) (fM.2 18 (by decide) (by decide)) (fM.2 19 (by decide) (by decide)))
theorem inv_op8 : op8 Inv := by
  intro a1 zC zM ha h
  have h1 := h.1
  have ht := h1.t
  obtain ⟨b0, b1, b2, b3, _⟩ := h.2.1
  obtain ⟨r0, r1, r2, r3⟩ := rgS h1
  unfold cal_X9_spell
  refine w_X0_isStatement (t := 1) ha (by rw [b1]; exact r1) (fun q => w_t rg1 (hp_i ?_)) (fun q => w_f rg0 ?_)
  rotate_left
  · rw [b1] at q
    exact w_X10_isStatement ha r3 (fun r => absurd r q) (fun _ => w_f rg0 ⟨rfl, h⟩)
  rw [b1] at q
  obtain ⟨t, rfl⟩ : ∃ t : Nat, a1 = t := ⟨a1.toNat, by omega⟩
  have htt : t < sT (zM 1) := by omega
  obtain ⟨s0, s1, s2, s3, s4⟩ := b2 t htt
  have ho := h1.2.2.2 t htt
  have ib : inb (t : Int) 61 := ⟨by omega, by omega⟩
  have f1 : TF 83 zC (kup zC 83 1 0) := ⟨fun j hj => kup_n (fun r => hj r.2), fun c c0 _ => by funext i; exact kup_c c0⟩
  have t1 : Txt (kup zC 83 1 0) 83 [] := Txt.nil
  generalize kup zC 83 1 0 = z1 at *
  obtain ⟨o0, o1, o2, o3, o4, o5⟩ := id ho
  obtain ⟨s, hs⟩ : ∃ s : Nat, fS (zM 1) t = s := ⟨(fS (zM 1) t).toNat, by omega⟩
  have s8 : s < 8 := by omega
  obtain ⟨kl1, kl2⟩ := klet_tx s s8
  have vA : S_ok (zM 1 (242 + 6 * t + 1)) := by unfold S_ok; have := h1.n; omega
  have vB : S_ok (zM 1 (242 + 6 * t + 2)) := by
    unfold S_ok
    have := h1.n
    have e : zM 1 (242 + 6 * t + 2) = fB (zM 1) t := rfl
    omega
  have vL : S_ok (zM 1 (242 + 6 * t + 3)) := by
    unfold S_ok
    have e : zM 1 (242 + 6 * t + 3) = fL (zM 1) t := rfl
    unfold isYrs at o3
    omega
  have vH : S_ok (zM 1 (242 + 6 * t + 4)) := by
    unfold S_ok
    have e : zM 1 (242 + 6 * t + 4) = fH (zM 1) t := rfl
    unfold isYrs at o4
    omega
  unfold cal_X0_spellInto
  have rd : ∀ (z : Hp) (c : Nat), c ≠ 83 → c ≠ 84 → TF 83 zC z → z c = zC c := fun z c a b f => f.2 c a b
  rw [Int.toNat_natCast, rd z1 (1 + 34) (by omega) (by omega) f1]
  have s0' : zC (1 + 34) t = fS (zM 1) t := s0
  rw [s0', hs]
  refine ⟨ib, w_if ⟨by omega, by omega⟩ (fun e => absurd e (by omega)) (fun _ => w_if ⟨by omega, by omega⟩ (fun e => absurd e (by omega)) (fun _ => ⟨⟨by omega, by omega⟩, ?_⟩))⟩
  rw [Int.toNat_natCast]
  refine w_put t1 (by rw [klT83]; simp) (by rw [klT83]; omega) kl2 (fun z2 t2 f2 => ⟨ib, ?_⟩)
  rw [rd z2 (1 + 35) (by omega) (by omega) (f1.tr f2)]
  have s1' : zC (1 + 35) t = zM 1 (242 + 6 * t + 1) := by rw [ho.at1]; exact s1
  rw [s1']
  refine w_spellNumber t2 vA (by simp) (fun z3 t3 f3 => ⟨ib, ?_⟩)
  have g3 := f1.tr (f2.tr f3)
  have n1 := num_len (v := zM 1 (242 + 6 * t + 1))
  have n2 := num_len (v := zM 1 (242 + 6 * t + 2))
  have n3 := num_len (v := zM 1 (242 + 6 * t + 3))
  have n4 := num_len (v := zM 1 (242 + 6 * t + 4))
  rw [rd z3 (1 + 36) (by omega) (by omega) g3]
  have s2' : zC (1 + 36) t = zM 1 (242 + 6 * t + 2) := s2
  rw [s2']
  refine w_spellNumber t3 vB (by rw [List.length_append, List.nil_append, List.length_singleton]; omega) (fun z4 t4 f4 => ⟨ib, ?_⟩)
  have g4 := g3.tr f4
  rw [rd z4 (1 + 37) (by omega) (by omega) g4]
  have s3' : zC (1 + 37) t = zM 1 (242 + 6 * t + 3) := s3
  rw [s3']
  refine w_spellNumber t4 vL (by rw [List.length_append, List.length_append, List.nil_append, List.length_singleton]; omega) (fun z5 t5 f5 => ⟨ib, ?_⟩)
  have g5 := g4.tr f5
  rw [rd z5 (1 + 38) (by omega) (by omega) g5]
  have s4' : zC (1 + 38) t = zM 1 (242 + 6 * t + 4) := s4
  rw [s4']
  refine w_spellNumber t5 vH (by rw [List.length_append, List.length_append, List.length_append, List.nil_append, List.length_singleton]; omega) (fun z6 t6 f6 => ?_)
  have g6 := g5.tr f6
  rw [kl1] at t6
  have eL : [] ++ [(kTx 23).getD s 0] ++ num (zM 1 (242 + 6 * t + 1)) ++ num (zM 1 (242 + 6 * t + 2)) ++ num (zM 1 (242 + 6 * t + 3)) ++ num (zM 1 (242 + 6 * t + 4)) = [(kTx 23).getD s 0] ++ nu (zM 1) t 5 := by
    have : nu (zM 1) t 5 = ((([] ++ num (zM 1 (242 + 6 * t + 1))) ++ num (zM 1 (242 + 6 * t + 2))) ++ num (zM 1 (242 + 6 * t + 3))) ++ num (zM 1 (242 + 6 * t + 4)) := rfl
    rw [this]
    simp only [List.nil_append, List.append_assoc]
  rw [eL] at t6
  have nl := nu_len (S := zM 1) (t := t)
  refine w_X10_isStatement ha r3 (fun _ => w_t rg1 (hp_i ?_)) (fun r => absurd q r)
  have tm : TxM (kup zM 0 7 0) [] := TxM.nil
  have fm : MF zM (kup zM 0 7 0) := ⟨fun j hj => kup_n (fun r => hj r.2), fun c c0 _ => by funext i; exact kup_c c0⟩
  generalize kup zM 0 7 0 = m1 at *
  refine w_X10_told (w := 0) (by omega) ?_
  rw [fm.2 1 (by decide) (by decide)]
  have es : zM 1 (242 + 6 * t + 0) = s := hs
  rw [es]
  refine ⟨⟨by omega, by show (s : Int) < 8; omega⟩, ?_⟩
  rw [Int.toNat_natCast]
  refine w_writes tm (by simp) (fun y2 ty2 fy2 => lt_i ?_)
  refine LP1_for 5 (fun j y => 1 ≤ j ∧ TxM y ([(kTx 23).getD s 0] ++ nu (zM 1) t j) ∧ MF zM y) 1 rfl (by omega) ⟨Nat.le_refl 1, ty2, fm.tr fy2⟩ (fun X j y hj hI hX => ?_) (fun X y hI => ?_)
  · obtain ⟨jp, i1, i2⟩ := hI
    by_cases j0 : j = 0
    · omega
    · have vj : S_ok (zM 1 (242 + 6 * t + j)) := by
        have : j = 1 ∨ j = 2 ∨ j = 3 ∨ j = 4 := by omega
        rcases this with rfl | rfl | rfl | rfl
        · exact vA
        · exact vB
        · exact vL
        · exact vH
      have hX' : ∀ y', TxM y' (([(kTx 23).getD s 0] ++ nu (zM 1) t j) ++ num (zM 1 (242 + 6 * t + j))) → MF zM y' → X ((j : Int) + 1) y' := fun y' a b => hX y' ⟨by omega, by rw [nu, if_neg j0, ← List.append_assoc]; exact a, b⟩
      have nlj := nl j
      refine w_if ⟨by omega, by omega⟩ (fun e => absurd e (by omega)) (fun _ => w_X10_told (by omega) ?_)
      rw [i2.2 1 (by decide) (by decide)]
      refine jn_i (fun J => ∀ y', TxM y' (([(kTx 23).getD s 0] ++ nu (zM 1) t j) ++ num (zM 1 (242 + 6 * t + j))) → MF zM y' → J y') (fun y' a b => lt_i (hX' y' a b)) (fun J hJ => ⟨by unfold S_ok at vj; constructor <;> omega, w_ite (fun e => ?_) (fun e => ?_)⟩)
      · have en : num (zM 1 (242 + 6 * t + j)) = 32 :: dig (zM 1 (242 + 6 * t + j)) := by unfold num; rw [if_neg (by omega)]
        rw [en] at hJ
        have dl := (dig_len (zM 1 (242 + 6 * t + j))).1
        unfold S_ok at vj
        refine w_writes i1 (by rw [List.length_append, List.length_singleton]; omega) (fun y3 t3 f3 => w_X10_told (by omega) ?_)
        rw [(i2.tr f3).2 1 (by decide) (by decide)]
        refine w_writesNumber 5 t3 ⟨by omega, by omega⟩ (by omega) (by rw [List.length_append, List.length_append, List.length_singleton, List.length_singleton]; omega) (fun y4 t4 f4 => hJ y4 ?_ (i2.tr (f3.tr f4)))
        rw [List.append_assoc _ [32]] at t4
        exact t4
      · have en : num (zM 1 (242 + 6 * t + j)) = [] := by unfold num; rw [if_pos (by omega)]
        rw [en, List.append_nil] at hJ
        exact hJ y i1 i2
  · obtain ⟨_, i1, i2⟩ := hI
    refine w_if ⟨by omega, by omega⟩ (fun _ => ⟨by rw [t6.1, i1.1], h.paper ?_ t6 g6 i1 i2⟩) (fun e => absurd e (by decide))
    rw [List.length_append, List.length_singleton]
    have := nl 5
    omega
