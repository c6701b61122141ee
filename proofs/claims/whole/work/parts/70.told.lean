/-! how many of what: told -/
def mxT (H : Nat → Nat) : Nat → Nat
  | 0 => 0
  | k + 1 => max (mxT H k) (H k)
theorem mxT_le {H : Nat → Nat} {b : Nat} (h : ∀ p, H p ≤ b) : ∀ k, mxT H k ≤ b
  | 0 => Nat.zero_le _
  | k + 1 => by have := mxT_le h k; have := h k; unfold mxT; omega
theorem mxT_up {H : Nat → Nat} {n : Nat} (h : ∀ p, n ≤ p → H p = 0) : ∀ d, mxT H (n + d) = mxT H n
  | 0 => rfl
  | d + 1 => by
    have ih := mxT_up h d
    have h0 := h (n + d) (by omega)
    rw [show n + (d + 1) = (n + d) + 1 by omega, mxT, ih, h0]
    omega
theorem hgt_0 {pr : Nat → Nat} {p : Nat} (h : pr p = 0) : ∀ k, hgt pr k p = 0
  | 0 => rfl
  | k + 1 => Nat.le_zero.mp (mxO_le (h := hgt pr k) 30 (fun q _ hb => by rw [h, Nat.zero_testBit] at hb; cases hb))
theorem pr_0 {S : Nat → Int} (h : SOk 60 S) {p : Nat} (hp : ¬ (p < sN S ∧ gOf S p = p)) : prOf S p = 0 := by
  have hgg := gOf_good h
  refine Nat.eq_of_testBit_eq fun i => ?_
  rw [Nat.zero_testBit]
  cases hb : (prOf S p).testBit i with
  | false => rfl
  | true =>
    exfalso
    have hb : (moOf S p ||| faOf S p).testBit i = true := hb
    rw [Nat.testBit_or, Bool.or_eq_true] at hb
    have go : ∀ s, (paL S (gOf S) s (lv S) p).testBit i = true → False := fun s hs => by
      obtain ⟨t, t1, _, t3, _⟩ := (paL_bit (lv S)).mp hs
      have ho := lv_ok h (Nat.le_refl _) t t1
      exact hp ⟨by rw [← t3]; exact hgg.lt ho.a, by rw [← t3]; exact hgg.2.1 _⟩
    exact hb.elim (go 2) (go 3)
noncomputable def uK (S : Nat → Int) : Nat → Nat
  | 0 => 0
  | k + 1 => uK S k + @ite Nat (∀ q, q < k → cq S q k 7 ≠ 0) (Classical.propDecidable _) 1 0
theorem cntB_pos {s q : Nat} (h : s.testBit q = true) : ∀ k, q < k → 0 < cntB s k
  | 0, hq => absurd hq (by omega)
  | k + 1, hq => by
    unfold cntB
    by_cases e : q = k
    · subst e; rw [if_pos h]; omega
    · have := cntB_pos h k (by omega); omega
theorem lvK_len_step {S : Nat → Int} {k : Nat} (h : fV S k = 0 ∨ fV S k = 1) : (((lvK S (k + 1)).length : Nat) : Int) = (((lvK S k).length : Nat) : Int) + fV S k := by
  rw [lvK_succ]
  rcases h with h | h
  · rw [if_neg (show ¬ isLv S k = true from fun q => by have : fV S k = 1 := of_decide_eq_true q; omega), List.append_nil, h, Int.add_zero]
  · rw [if_pos (show isLv S k = true from decide_eq_true h), List.length_append, List.length_singleton, h]; omega
set_option maxHeartbeats 1000000 in
theorem inv_op33 : op33 Inv := by
  intro a1 zC zM ha h
  refine w_settle h (fun z' h' h8 st _ => ?_)
  have h1 := h'.1
  have hn := h1.n
  have ht := h1.t
  have b0 := h'.2.1.1
  have b1 := h'.2.1.2.1
  have bp := h'.2.1.2.2.2.2.1
  obtain ⟨r0, r1, r2, r3⟩ := rgS h1
  refine w_if ha (fun e => ?_) (fun e0 => w_ite (fun e => ?_) (fun e1 => w_ite (fun e => ?_) (fun e2 => w_ite (fun e => ?_) (fun e3 => w_ite (fun e => ?_) (fun e4 => w_ite (fun e => ?_) (fun e5 => w_ite (fun e => ?_) (fun e6 => w_ite (fun e => ?_) (fun e7 => ?_))))))))
  · refine lt_i ⟨ha, ?_⟩
    rw [if_pos e]
    exact ⟨b0, h'⟩
  · obtain ⟨L, l1, l2, l3, l4, l5⟩ := ords h' h8 st
    refine lt_i ⟨ha, ?_⟩
    rw [if_neg e0, if_pos e]
    exact l5 _ (fun z'' hH hf => ⟨l1, inv_16 h' hf⟩)
  · refine lt_i ⟨ha, ?_⟩
    rw [if_neg e0, if_neg e1, if_pos e]
    exact ⟨b1, h'⟩
  · have hsc : z' 86 1 = (((lv (zM 1)).length : Nat) : Int) := by
      rcases h'.2.2.2.2.2.2.2 with ⟨a, _⟩ | ⟨_, hw, _⟩
      · omega
      · exact hw.1
    rw [hsc]
    refine lt_i ⟨ha, ?_⟩
    rw [if_neg e0, if_neg e1, if_neg e2, if_pos e]
    refine lt_i (LQ2_for (sT (zM 1)) (fun j a => a = (((lvK (zM 1) j).length : Nat) : Int)) 0 rfl (by omega) rfl (fun X j a hj ha2 hX => ?_) (fun X a ha2 => ?_))
    · have ho := h1.2.2.2 j hj
      refine w_if2 ⟨by omega, by omega⟩ r1 (fun e => absurd e (by omega)) (fun _ => w_X10_told (w := 5) (by omega) (lt_i (lt_i (hX _ ?_))))
      rw [lvK_len_step ho.2.2.2.2.2, ha2]
      rfl
    · subst ha2
      exact w_if2 ⟨by omega, by omega⟩ r1 (fun _ => ⟨rfl, h'⟩) (fun e => absurd e (by omega))
  · obtain ⟨n, n1, n2, n3, n4⟩ := h'.2.2.2.1
    refine lt_i ⟨ha, ?_⟩
    rw [if_neg e0, if_neg e1, if_neg e2, if_neg e3, if_pos e]
    exact ⟨by rw [n2, n3], h'⟩
  · obtain ⟨n, n1, n2, n3, n4⟩ := h'.2.2.2.2.1
    refine lt_i ⟨ha, ?_⟩
    rw [if_neg e0, if_neg e1, if_neg e2, if_neg e3, if_neg e4, if_pos e]
    exact ⟨by rw [n2, n3], h'⟩
  · have ref : ∀ v : Int, v = (uK (zM 1) (sN (zM 1)) : Nat) → cal_X10_told_ a1 zM (fun r' zM' => v = r' ∧ Inv z' zM') := fun v hv => by
      refine lt_i ⟨ha, ?_⟩
      rw [if_neg e0, if_neg e1, if_neg e2, if_neg e3, if_neg e4, if_neg e5, if_pos e]
      refine lt_i (LQ2_for (sN (zM 1)) (fun j a => a = ((uK (zM 1) j : Nat) : Int)) 0 rfl (by omega) rfl (fun X j a hj ha2 hX => ?_) (fun X a ha2 => ?_))
      · have hX' : ∀ a', a' = ((uK (zM 1) (j + 1) : Nat) : Int) → X a' ((j : Int) + 1) := fun a' e => hX a' e
        rw [uK] at hX'
        refine w_if2 ⟨by omega, by omega⟩ r0 (fun e => absurd e (by omega)) (fun _ => lt_i (lt_i ?_))
        refine LQ2_for j (fun i b => (b = 1 ∧ ∀ q, q < i → cq (zM 1) q j 7 ≠ 0) ∨ (b = 0 ∧ ¬ ∀ q, q < j → cq (zM 1) q j 7 ≠ 0)) 0 rfl (by omega) (Or.inl ⟨rfl, fun q hq => absurd hq (by omega)⟩) (fun Y i b hi hb hY => ?_) (fun Y b hb => ?_)
        · refine w_if2 ⟨by omega, by omega⟩ ⟨by omega, by omega⟩ (fun e => absurd e (by omega)) (fun _ => w_cmpM h1 rfl (by omega) hj (fun rc => ?_))
          have i10 : iand 1 0 = 0 := by decide
          have i00 : iand 0 0 = 0 := by decide
          have i11 : iand 1 1 = 1 := by decide
          have i01 : iand 0 1 = 0 := by decide
          rcases hb with ⟨rfl, hb⟩ | ⟨rfl, hb⟩
          · by_cases c : cq (zM 1) i j 7 = 0
            · exact jn_i (fun J => J 0) (lt_i (hY 0 (Or.inr ⟨rfl, fun q => q i hi c⟩))) (fun J hJ => w_if rc (fun _ => lt_i (by rw [i10]; exact hJ)) (fun r => absurd c r))
            · refine jn_i (fun J => J 1) (lt_i (hY 1 (Or.inl ⟨rfl, fun q hq => ?_⟩))) (fun J hJ => w_if rc (fun r => absurd r c) (fun _ => lt_i (by rw [i11]; exact hJ)))
              by_cases g : q = i
              · subst g; exact c
              · exact hb q (by omega)
          · exact jn_i (fun J => J 0) (lt_i (hY 0 (Or.inr ⟨rfl, hb⟩))) (fun J hJ => w_if rc (fun _ => lt_i (by rw [i00]; exact hJ)) (fun _ => lt_i (by rw [i01]; exact hJ)))
        · refine w_if2 ⟨by omega, by omega⟩ ⟨by omega, by omega⟩ (fun _ => ?_) (fun e => absurd e (by omega))
          rcases hb with ⟨rfl, hb⟩ | ⟨rfl, hb⟩
          · rw [if_pos hb] at hX'
            exact jn_i (fun J => J (a + 1)) (lt_i (hX' _ (by omega))) (fun J hJ => w_t rg1 (lt_i hJ))
          · rw [if_neg hb] at hX'
            exact jn_i (fun J => J (a + 0)) (lt_i (hX' _ (by omega))) (fun J hJ => w_f rg0 (lt_i hJ))
      · subst ha2
        exact w_if2 ⟨by omega, by omega⟩ r0 (fun _ => ⟨hv, h'⟩) (fun e => absurd e (by omega))
    unfold cal_X0_unlikeNames
    refine lt_i (lt_i (LQ2_for (sN (zM 1)) (fun j a => a = ((uK (zM 1) j : Nat) : Int)) 0 rfl (by omega) rfl (fun X j a hj ha2 hX => ?_) (fun X a ha2 => ?_)))
    · have hX' : ∀ a', a' = ((uK (zM 1) (j + 1) : Nat) : Int) → X a' ((j : Int) + 1) := fun a' e => hX a' e
      rw [uK] at hX'
      rw [b0]
      refine w_if2 ⟨by omega, by omega⟩ r0 (fun e => absurd e (by omega)) (fun _ => lt_i (lt_i ?_))
      refine LQ2_for j (fun i b => (b = 1 ∧ ∀ q, q < i → cq (zM 1) q j 7 ≠ 0) ∨ (b = 0 ∧ ¬ ∀ q, q < j → cq (zM 1) q j 7 ≠ 0)) 0 rfl (by omega) (Or.inl ⟨rfl, fun q hq => absurd hq (by omega)⟩) (fun Y i b hi hb hY => ?_) (fun Y b hb => ?_)
      · refine w_if2 ⟨by omega, by omega⟩ ⟨by omega, by omega⟩ (fun e => absurd e (by omega)) (fun _ => ?_)
        rcases hb with ⟨rfl, hb⟩ | ⟨rfl, hb⟩
        · by_cases c : cq (zM 1) i j 7 = 0
          · exact jn_i (fun J => J 0) (lt_i (hY 0 (Or.inr ⟨rfl, fun q => q i hi c⟩))) (fun J hJ => jn_i (fun (J' : Prop) => J') (lt_i hJ) (fun J' hJ' => w_t rg1 (w_cmp h1 bp (by omega) hj (fun v ⟨s1, s2, s3⟩ => w_if s3 (fun _ => hJ') (fun r => absurd (s2.mpr c) r)))))
          · refine jn_i (fun J => J 1) (lt_i (hY 1 (Or.inl ⟨rfl, fun q hq => ?_⟩))) (fun J hJ => jn_i (fun (_ : Prop) => True) trivial (fun J' _ => w_t rg1 (w_cmp h1 bp (by omega) hj (fun v ⟨s1, s2, s3⟩ => w_if s3 (fun r => absurd (s2.mp r) c) (fun _ => lt_i hJ)))))
            by_cases g : q = i
            · subst g; exact c
            · exact hb q (by omega)
        · exact jn_i (fun J => J 0) (lt_i (hY 0 (Or.inr ⟨rfl, hb⟩))) (fun J hJ => jn_i (fun (J' : Prop) => J') (lt_i hJ) (fun J' hJ' => w_f rg0 hJ'))
      · refine w_if2 ⟨by omega, by omega⟩ ⟨by omega, by omega⟩ (fun _ => ?_) (fun e => absurd e (by omega))
        rcases hb with ⟨rfl, hb⟩ | ⟨rfl, hb⟩
        · rw [if_pos hb] at hX'
          exact jn_i (fun J => J (a + 1)) (lt_i (hX' _ (by omega))) (fun J hJ => w_t rg1 (lt_i hJ))
        · rw [if_neg hb] at hX'
          exact jn_i (fun J => J (a + 0)) (lt_i (hX' _ (by omega))) (fun J hJ => w_f rg0 (lt_i hJ))
    · rw [b0]
      exact w_if2 ⟨by omega, by omega⟩ r0 (fun _ => ref _ ha2) (fun e => absurd e (by omega))
  · obtain ⟨ab, sx, hab, hF, ⟨r6, r7, r8, r9⟩, hE, hCl, hrd⟩ := st
    have hgg := gOf_good h1
    have pB := fun p => prB h1 p
    have hc : z' 88 0 = (cntB (allK (gOf (zM 1)) (sN (zM 1))) 30 : Nat) := hF.2.1
    have sc : ∀ z'' : Hp, (∀ c, c ≠ 17 → z'' c = zM c) → Inv z' z'' := fun z'' hz => h'.scrM (fun c _ _ _ => hz c (by omega)) (fun j _ _ _ _ _ => by rw [hz 0 (by decide)])
    have ub := cntB_ub (allK (gOf (zM 1)) (sN (zM 1))) 30
    have none0 : zM 1 0 = 0 → cal_X10_told_ a1 zM (fun r' zM' => (-5 : Int) = r' ∧ Inv z' zM') := fun e00 => by
      refine lt_i ⟨ha, ?_⟩
      rw [if_neg e0, if_neg e1, if_neg e2, if_neg e3, if_neg e4, if_neg e5, if_neg e6, if_pos e]
      exact ⟨r0, by rw [if_pos e00]; exact ⟨rfl, h'⟩⟩
    have some0 : ∀ K : Int → Hp → Prop, zM 1 0 ≠ 0 → cal_X10_ages zM (fun v32 z31 => rg v32 ∧ if v32 = 0 then (K (-5) z31) else (lt1 0 (fun v33 => LQ2 (fun X34 v35 v36 => rg v36 ∧ rg (z31 1 0) ∧ if (z31 1 0) ≤ v36 then (K v35 z31) else (cal_X10_isOne v36 z31 (fun v37 => jn (fun J39 : Int → Prop => rg v37 ∧ if v37 = 0 then (lt1 v35 (fun v41 => J39 v41)) else (inb v36 30 ∧ rg v35 ∧ rg (z31 17 v36.toNat) ∧ lt1 (if v35 < (z31 17 v36.toNat) then (z31 17 v36.toNat) else v35) (fun v42 => J39 v42))) (fun v38 => lt1 (v36 + 1) (fun v40 => X34 v38 v40))))) 0 v33))) → cal_X10_told_ a1 zM K := fun K e00 hK => by
      refine lt_i ⟨ha, ?_⟩
      rw [if_neg e0, if_neg e1, if_neg e2, if_neg e3, if_neg e4, if_neg e5, if_neg e6, if_pos e]
      exact ⟨r0, by rw [if_neg e00]; exact hK⟩
    rcases hF.2.2.2.2.2.2.2 with ⟨g1, g2⟩ | ⟨g1, g2, g3⟩
    · have g2 : z' 88 12 = 1 := g2
      unfold cal_X1_greatestGeneration
      rw [g2]
      refine w_t rg1 ?_
      by_cases e00 : zM 1 0 = 0
      · exact none0 e00
      · exact some0 _ e00 (w_X10_ages hn.2 hn.1 r7 r8 r9 (prOf_ok h1) hab (fun x _ => (pB x).1) (fun x _ => (pB x).2.1) (fun r => absurd g1 r) (fun _ z'' hz => w_f rg0 ⟨rfl, sc z'' hz⟩))
    · have g2 : z' 88 12 = 0 := g2
      have g3 : Row z' 98 (hgt (prOf (zM 1)) 30) := g3
      unfold cal_X1_greatestGeneration
      rw [g2, hc]
      refine w_f rg0 (w_if ⟨by omega, by omega⟩ (fun e00 => none0 ?_) (fun e00 => ?_))
      · rw [hn.1]
        refine Decidable.byContradiction fun q => ?_
        have : 0 < cntB (allK (gOf (zM 1)) (sN (zM 1))) 30 := cntB_pos (q := 0) ((allK_bit hgg).mpr ⟨by omega, by have := hgg.1 0; omega⟩) 30 (by decide)
        omega
      · have n0 : zM 1 0 ≠ 0 := fun q => e00 (by
          have q : sN (zM 1) = 0 := by omega
          rw [q]
          have : allK (gOf (zM 1)) 0 = 0 := rfl
          rw [this, cntB_0]; rfl)
        have H30 : ∀ p, hgt (prOf (zM 1)) 30 p ≤ 30 := fun p => hgt_le _ 30 p
        have hz : ∀ p, ¬ (p < sN (zM 1) ∧ gOf (zM 1) p = p) → hgt (prOf (zM 1)) 30 p = 0 := fun p hp => hgt_0 (pr_0 h1 hp) 30
        refine lt_i (lt_i (LQ2_for 30 (fun j a => a = ((mxT (hgt (prOf (zM 1)) 30) j : Nat) : Int)) 0 rfl (by omega) rfl (fun X j a hj ha2 hX => ?_) (fun X a ha2 => ?_)))
        · have ml := mxT_le H30 j
          have hl := H30 j
          refine w_if ⟨by omega, by omega⟩ (fun e => absurd e (by omega)) (fun _ => ⟨⟨by omega, by omega⟩, ⟨by omega, by omega⟩, ?_⟩)
          rw [Int.toNat_natCast, show 88 + 10 = 98 from rfl, g3 j hj]
          refine ⟨⟨by omega, by omega⟩, lt_i (lt_i (hX _ ?_))⟩
          rw [mxT, ha2]
          split <;> omega
        · refine w_if ⟨by omega, by omega⟩ (fun _ => ?_) (fun e => absurd e (by omega))
          have up := mxT_up (H := hgt (prOf (zM 1)) 30) (n := sN (zM 1)) (fun p hp => hz p (fun q => by omega)) (30 - sN (zM 1))
          rw [show sN (zM 1) + (30 - sN (zM 1)) = 30 by omega] at up
          rw [up] at ha2
          refine some0 _ n0 (w_X10_ages hn.2 hn.1 r7 r8 r9 (prOf_ok h1) hab (fun x _ => (pB x).1) (fun x _ => (pB x).2.1) (fun _ z'' hA hf => w_t rg1 (lt_i ?_)) (fun r => absurd r g1))
          have e1' : z'' 1 = zM 1 := hf 1 (by decide)
          have r6' : Row z'' 6 (gOf (zM 1)) := r6.to (hf 6 (by decide))
          refine LQ2_for (sN (zM 1)) (fun j b => b = ((mxT (hgt (prOf (zM 1)) 30) j : Nat) : Int)) 0 rfl (by omega) rfl (fun Y j b hj hb2 hY => ?_) (fun Y b hb2 => ?_)
          · have ml := mxT_le H30 j
            have hl := H30 j
            have gj := hgg.1 j
            have vj := r6' j (by omega)
            have hY' : ∀ b', b' = ((mxT (hgt (prOf (zM 1)) 30) (j + 1) : Nat) : Int) → Y b' ((j : Int) + 1) := fun b' e => hY b' e
            rw [mxT] at hY'
            rw [e1']
            refine w_if2 ⟨by omega, by omega⟩ r0 (fun e => absurd e (by omega)) (fun _ => w_X10_isOne (by omega) (by rw [vj]; constructor <;> omega) (fun q => ?_) (fun q => ?_))
            · have aj : z'' 17 j = (hgt (prOf (zM 1)) 30 j : Nat) := hA j hj
              refine jn_i (fun J => J ((max (mxT (hgt (prOf (zM 1)) 30) j) (hgt (prOf (zM 1)) 30 j) : Nat) : Int)) (lt_i (hY' _ rfl)) (fun J hJ => w_t rg1 ⟨⟨by omega, by omega⟩, ⟨by omega, by omega⟩, ?_⟩)
              rw [Int.toNat_natCast, aj]
              refine ⟨⟨by omega, by omega⟩, lt_i ?_⟩
              rw [hb2]
              have e9 : (if ((mxT (hgt (prOf (zM 1)) 30) j : Nat) : Int) < ((hgt (prOf (zM 1)) 30 j : Nat) : Int) then ((hgt (prOf (zM 1)) 30 j : Nat) : Int) else ((mxT (hgt (prOf (zM 1)) 30) j : Nat) : Int)) = ((max (mxT (hgt (prOf (zM 1)) 30) j) (hgt (prOf (zM 1)) 30 j) : Nat) : Int) := by split <;> omega
              rw [e9]; exact hJ
            · have := hz j (fun r => q (by omega))
              exact jn_i (fun J => J b) (lt_i (hY' _ (by omega))) (fun J hJ => w_f rg0 (lt_i hJ))
          · rw [e1']
            exact w_if2 ⟨by omega, by omega⟩ r0 (fun _ => ⟨by rw [ha2, hb2], sc z'' hf⟩) (fun e => absurd e (by omega))
  · refine lt_i ⟨ha, ?_⟩
    rw [if_neg e0, if_neg e1, if_neg e2, if_neg e3, if_neg e4, if_neg e5, if_neg e6, if_neg e7]
    exact ⟨rfl, h'⟩
