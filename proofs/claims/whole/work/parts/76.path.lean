/-! the way from one to the other -/
theorem w_meetsR {zM : Hp} {a b : Nat} {K : Int → Hp → Prop} (h1 : SOk 60 (zM 1)) (hR : RefW zM (zM 1)) (ha : a < sN (zM 1)) (hb : b < sN (zM 1)) (k : ∀ (v : Int) (y : Hp), v = (if bst (dU (prOf (zM 1)) (gOf (zM 1) a)) (dU (prOf (zM 1)) (gOf (zM 1) b)) 30 = 30 then 0 else 1) → WayM y (dU (prOf (zM 1)) (gOf (zM 1) a)) (dU (prOf (zM 1)) (gOf (zM 1) b)) → (∀ j, j ≠ 27 → y 0 j = zM 0 j) → (∀ c, c ≠ 0 → c ≠ 13 → c ≠ 14 → y c = zM c) → K v y) : cal_X10_meets a b zM K := by
  obtain ⟨ab, cl, wh, r6, r7, r8, _⟩ := hR
  have hn := h1.n
  have hgg := gOf_good h1
  exact w_X10_meets hn.2 (by omega) (by omega) (hgg.lt ha) (hgg.lt hb) (prOf_ok h1) hn.1 r6 r7 r8 (fun p _ => (prB h1 p).1) (fun p _ => (prB h1 p).2.1) k
set_option maxHeartbeats 1000000 in
theorem inv_op27 : op27 Inv := by
  intro a1 a2 a3 zC zM ha hb hc h
  have h1 := h.1
  have hn := h1.n
  have b0 := h.2.1.1
  obtain ⟨r0, r1, r2, r3⟩ := rgS h1
  unfold cal_X9_path
  refine w_X9_arePersons ha hb (by rw [b0]; exact r0) (fun q => w_t rg1 ?_) (fun q => w_f rg0 ?_)
  rotate_left
  · rw [b0] at q
    exact w_X10_areTwo ha hb r2 (fun r => absurd r q) (fun _ => w_f rg0 ⟨rfl, h⟩)
  rw [b0] at q
  obtain ⟨a, rfl⟩ : ∃ a : Nat, a1 = a := ⟨a1.toNat, by omega⟩
  obtain ⟨b, rfl⟩ : ∃ b : Nat, a2 = b := ⟨a2.toNat, by omega⟩
  have hpa : a < sN (zM 1) := by omega
  have hpb : b < sN (zM 1) := by omega
  have hgg := gOf_good h1
  have hga := hgg.lt hpa
  have hgb := hgg.lt hpb
  have hpr := prOf_ok h1
  have pB := fun p => prB h1 p
  -- what the reference answers, for any state of the class's in which the law's pair stands
  have ref : ∀ (K : Int → Hp → Prop), (∀ (v : Int) (y : Hp), v = (if bst (dU (prOf (zM 1)) (gOf (zM 1) a)) (dU (prOf (zM 1)) (gOf (zM 1) b)) 30 = 30 then 0 else 1) → WayM y (dU (prOf (zM 1)) (gOf (zM 1) a)) (dU (prOf (zM 1)) (gOf (zM 1) b)) → (∀ j, j ≠ 27 → y 0 j = zM 0 j) → (∀ c, c ≠ 0 → c ≠ 13 → c ≠ 14 → y c = zM c) → (rg v ∧ if v = 0 then (rg a3 ∧ if (-1) ≤ a3 then (K (-5) y) else (K (-1) y)) else (inb (y 0 27) 30 ∧ inb (y 0 27) 30 ∧ hp1 (kup y 0 28 (((y 13 (y 0 27).toNat) + (y 14 (y 0 27).toNat)) + 1)) (fun z4 => rg a3 ∧ if a3 < (-1) then (K (-1) z4) else (rg a3 ∧ rg (z4 0 28) ∧ if a3 < (z4 0 28) then (rg a3 ∧ if 0 ≤ a3 then (inb (z4 0 27) 30 ∧ lt1 (z4 13 (z4 0 27).toNat) (fun v5 => inb v5 60 ∧ hp1 (kup z4 15 v5.toNat (z4 0 27)) (fun z6 => lt1 v5 (fun v7 => LP1 (fun X8 v9 z10 => rg v9 ∧ if v9 ≤ 0 then (lt1 v5 (fun v11 => LP1 (fun X12 v13 z14 => rg v13 ∧ rg ((z14 0 28) - 1) ∧ if ((z14 0 28) - 1) ≤ v13 then (inb a3 60 ∧ K (z14 15 a3.toNat) z14) else (inb v13 60 ∧ cal_X10_under (z14 15 v13.toNat) 14 z14 (fun v15 => inb (v13 + 1) 60 ∧ hp1 (kup z14 15 (v13 + 1).toNat v15) (fun z16 => lt1 (v13 + 1) (fun v17 => X12 v17 z16))))) v11 z10)) else (inb v9 60 ∧ cal_X10_under (z10 15 v9.toNat) 13 z10 (fun v18 => inb (v9 - 1) 60 ∧ hp1 (kup z10 15 (v9 - 1).toNat v18) (fun z19 => lt1 (v9 + (-1)) (fun v20 => X8 v20 z19))))) v7 z6)))) else (K (z4 0 28) z4)) else (K (-1) z4))))) ) → cal_X10_path a b a3 zM K := fun K hK =>
    w_X10_areTwo ha hb r2 (fun _ => w_t rg1 (w_meetsR h1 h.2.2.2.2.2.2.1 hpa hpb (fun v y hv hy g0 g => hK v y hv hy g0 g))) (fun r => absurd q r)
  refine w_if hc (fun e => ?_) (fun e => ?_)
  rotate_left
  · refine ref _ (fun v y hv hy g0 g => ?_)
    have hi : Inv zC y := h.scrM (fun c c0 _ q => g c c0 (by omega) (by omega)) (fun j _ _ _ q _ => g0 j q)
    by_cases c : bst (dU (prOf (zM 1)) (gOf (zM 1) a)) (dU (prOf (zM 1)) (gOf (zM 1) b)) 30 = 30
    · rw [if_pos c] at hv
      subst hv
      exact w_f rg0 (w_if hc (fun r => absurd r e) (fun _ => ⟨rfl, hi⟩))
    · rw [if_neg c] at hv
      subst hv
      rcases bst_ok (U := dU (prOf (zM 1)) (gOf (zM 1) a)) (D := dU (prOf (zM 1)) (gOf (zM 1) b)) 30 (Nat.le_refl _) with c' | ⟨c1, c2, c3⟩
      · exact absurd c' c
      have e1 := hy.1
      rw [if_neg c] at e1
      rw [e1]
      refine w_t rg1 ⟨⟨by omega, by omega⟩, ⟨by omega, by omega⟩, hp_i (w_if hc (fun _ => ⟨rfl, ?_⟩) (fun r => absurd (by omega) r))⟩
      exact hi.scrM (fun c c0 _ _ => by funext i; exact kup_c c0) (fun j _ _ _ _ q => kup_n (fun r => q r.2))
  refine w_settle h (fun z' h' _ st _ => ?_)
  have st' := st
  obtain ⟨ab, sx, hab, hF, ⟨r6, r7, r8, r9⟩, _⟩ := st'
  obtain ⟨_, hcnt, hall, R1, R2, ⟨R3, R4, R5, R6, R8, R9⟩, R7, ring⟩ := hF
  refine w_seekWays h1 st hpa hpb (fun z'' hW hf => ?_)
  obtain ⟨hB, hA1, hA2⟩ := hW
  have oU := okU (prOf (zM 1)) (gOf (zM 1) a)
  have oD := okU (prOf (zM 1)) (gOf (zM 1) b)
  rcases hB with ⟨d1, d2⟩ | ⟨d1, d2, d3, d4⟩
  · rw [d2]
    refine ⟨⟨by decide, by decide⟩, ?_⟩
    rw [if_neg (by decide)]
    refine ref _ (fun v y hv hy g0 g => ?_)
    rw [if_pos d1] at hv
    subst hv
    exact w_f rg0 (w_if hc (fun _ => ⟨rfl, inv_way h' hf g0 g⟩) (fun r => absurd e r))
  · rcases bst_ok (U := dU (prOf (zM 1)) (gOf (zM 1) a)) (D := dU (prOf (zM 1)) (gOf (zM 1) b)) 30 (Nat.le_refl _) with c | ⟨c1, c2, c3⟩
    · omega
    rw [d2]
    refine ⟨⟨by omega, by omega⟩, ?_⟩
    rw [if_pos (by omega), d3, d4]
    have R6' : Row z'' 94 (prOf (zM 1)) := Row.to R6 (hf 94 (by decide) (by decide) (by decide))
    have dnU := dn_ok hn.2 hpr hga c1 c2
    have dnD := dn_ok hn.2 hpr hgb c1 c3
    have exU := fun p => dU_ex hn.2 hpr hga (p := p)
    have exD := fun p => dU_ex hn.2 hpr hgb (p := p)
    have wU := fun (f : Nat) (K : Int → Prop) (hle : f ≤ dU (prOf (zM 1)) (gOf (zM 1) a) (bst (dU (prOf (zM 1)) (gOf (zM 1) a)) (dU (prOf (zM 1)) (gOf (zM 1) b)) 30)) => w_X7_descend (r := 134) (f := f) (z := z'') (K := K) hn.2 hpr hga c1 c2 hle d2 R6' hA1
    have wD := fun (f : Nat) (K : Int → Prop) (hle : f ≤ dU (prOf (zM 1)) (gOf (zM 1) b) (bst (dU (prOf (zM 1)) (gOf (zM 1) a)) (dU (prOf (zM 1)) (gOf (zM 1) b)) 30)) => w_X7_descend (r := 135) (f := f) (z := z'') (K := K) hn.2 hpr hgb c1 c3 hle d2 R6' hA2
    have o1 := oU (bst (dU (prOf (zM 1)) (gOf (zM 1) a)) (dU (prOf (zM 1)) (gOf (zM 1) b)) 30)
    have o2 := oD (bst (dU (prOf (zM 1)) (gOf (zM 1) a)) (dU (prOf (zM 1)) (gOf (zM 1) b)) 30)
    have ref2 : ∀ K : Int → Hp → Prop, (∀ y : Hp, WayM y (dU (prOf (zM 1)) (gOf (zM 1) a)) (dU (prOf (zM 1)) (gOf (zM 1) b)) → Row y 7 (moOf (zM 1)) → Row y 8 (faOf (zM 1)) → Inv z'' y → y 0 28 = ((dU (prOf (zM 1)) (gOf (zM 1) a) (bst (dU (prOf (zM 1)) (gOf (zM 1) a)) (dU (prOf (zM 1)) (gOf (zM 1) b)) 30) + dU (prOf (zM 1)) (gOf (zM 1) b) (bst (dU (prOf (zM 1)) (gOf (zM 1) a)) (dU (prOf (zM 1)) (gOf (zM 1) b)) 30) + 1 : Nat) : Int) → (rg a3 ∧ if a3 < (-1) then (K (-1) y) else (rg a3 ∧ rg (y 0 28) ∧ if a3 < (y 0 28) then (rg a3 ∧ if 0 ≤ a3 then (inb (y 0 27) 30 ∧ lt1 (y 13 (y 0 27).toNat) (fun v5 => inb v5 60 ∧ hp1 (kup y 15 v5.toNat (y 0 27)) (fun z6 => lt1 v5 (fun v7 => LP1 (fun X8 v9 z10 => rg v9 ∧ if v9 ≤ 0 then (lt1 v5 (fun v11 => LP1 (fun X12 v13 z14 => rg v13 ∧ rg ((z14 0 28) - 1) ∧ if ((z14 0 28) - 1) ≤ v13 then (inb a3 60 ∧ K (z14 15 a3.toNat) z14) else (inb v13 60 ∧ cal_X10_under (z14 15 v13.toNat) 14 z14 (fun v15 => inb (v13 + 1) 60 ∧ hp1 (kup z14 15 (v13 + 1).toNat v15) (fun z16 => lt1 (v13 + 1) (fun v17 => X12 v17 z16))))) v11 z10)) else (inb v9 60 ∧ cal_X10_under (z10 15 v9.toNat) 13 z10 (fun v18 => inb (v9 - 1) 60 ∧ hp1 (kup z10 15 (v9 - 1).toNat v18) (fun z19 => lt1 (v9 + (-1)) (fun v20 => X8 v20 z19))))) v7 z6)))) else (K (y 0 28) y)) else (K (-1) y)))) → cal_X10_path a b a3 zM K := fun K hK => ref K (fun v y hv hy g0 g => by
      rw [if_neg (by omega)] at hv
      subst hv
      obtain ⟨e1, e2, e3⟩ := hy
      have e1' := e1
      rw [if_neg (by omega)] at e1'
      rw [e1', Int.toNat_natCast, e2 _ c1, e3 _ c1]
      refine w_t rg1 ⟨⟨by omega, by omega⟩, ⟨by omega, by omega⟩, hp_i (hK _ ⟨?_, fun p hp => ?_, fun p hp => ?_⟩ (Row.to r7 ?_) (Row.to r8 ?_) ?_ ?_)⟩
      · rw [kup_n (fun r => absurd r.2 (by decide))]; exact e1
      · rw [kup_c (by decide)]; exact e2 p hp
      · rw [kup_c (by decide)]; exact e3 p hp
      · funext i; rw [kup_c (by decide), g 7 (by decide) (by decide) (by decide)]
      · funext i; rw [kup_c (by decide), g 8 (by decide) (by decide) (by decide)]
      · exact (inv_way h' hf g0 g).scrM (fun c c0 _ _ => by funext i; exact kup_c c0) (fun j _ _ _ _ q => kup_n (fun r => q r.2))
      · rw [kup_eq]; omega)
    generalize hcc : bst (dU (prOf (zM 1)) (gOf (zM 1) a)) (dU (prOf (zM 1)) (gOf (zM 1) b)) 30 = c at *
    generalize hUu : dU (prOf (zM 1)) (gOf (zM 1) a) = U at *
    generalize hDd : dU (prOf (zM 1)) (gOf (zM 1) b) = D at *
    have q1 : ((U c : Nat) : Int) + ((D c : Nat) : Int) + 1 = ((U c + D c + 1 : Nat) : Int) := by omega
    rw [q1]
    refine lt_i (w_if hc (fun em => ref2 _ (fun y hy y7 y8 hi e28 => ?_)) (fun em => w_if2 hc ⟨by omega, by omega⟩ (fun eg => ref2 _ (fun y hy y7 y8 hi e28 => ?_)) (fun eg => ?_)))
    · rw [e28]
      exact w_if hc (fun r => absurd r (by omega)) (fun _ => w_if2 hc ⟨by omega, by omega⟩ (fun _ => w_if hc (fun r => absurd r (by omega)) (fun _ => ⟨rfl, hi⟩)) (fun r => absurd (by omega) r))
    · rw [e28]
      exact w_if hc (fun r => absurd r (by omega)) (fun _ => w_if2 hc ⟨by omega, by omega⟩ (fun r => absurd r (by omega)) (fun _ => ⟨rfl, hi⟩))
    · obtain ⟨i, rfl⟩ : ∃ i : Nat, a3 = i := ⟨a3.toNat, by omega⟩
      have fin : ∀ v : Int, v = (if i ≤ U c then (dnF (prOf (zM 1)) U c (U c - i) : Nat) else (dnF (prOf (zM 1)) D c (i - U c) : Nat) : Nat) → cal_X10_path a b i zM (fun r' zM' => v = r' ∧ Inv z'' zM') := fun v hv => ref2 _ (fun y hy y7 y8 hi e28 => by
        have e27 : y 0 27 = c := by
          have := hy.1
          rw [hcc] at this
          rw [this, if_neg (by omega)]
        obtain ⟨_, yU, yD⟩ := hy
        rw [e28, e27]
        refine w_if hc (fun r => absurd r (by omega)) (fun _ => w_if2 hc ⟨by omega, by omega⟩ (fun _ => w_if hc (fun _ => ⟨⟨by omega, by omega⟩, ?_⟩) (fun r => absurd (by omega) r)) (fun r => absurd (by omega) r))
        rw [Int.toNat_natCast, yU c c1]
        refine lt_i ⟨⟨by omega, by omega⟩, hp_i (lt_i ?_)⟩
        rw [Int.toNat_natCast]
        refine LP1_ind (fun m w z => w = (m : Int) ∧ m ≤ U c ∧ (∀ x, m ≤ x → x ≤ U c → z 15 x = (dnF (prOf (zM 1)) U c (U c - x) : Nat)) ∧ ∀ d, d ≠ 15 → z d = y d) (fun X m w z hI hX => ?_) (n := U c) ⟨rfl, Nat.le_refl _, fun x p q => ?_, fun d hd => by funext j; exact kup_c hd⟩
        rotate_left
        · have : x = U c := by omega
          subst this
          rw [Int.toNat_natCast, kup_eq, Nat.sub_self]; rfl
        obtain ⟨rfl, m1, m2, m3⟩ := hI
        have zU : ∀ p, p < 30 → z 13 p = (U p : Nat) := fun p hp => by rw [m3 13 (by decide)]; exact yU p hp
        have z7 : Row z 7 (moOf (zM 1)) := y7.to (m3 7 (by decide))
        have z8 : Row z 8 (faOf (zM 1)) := y8.to (m3 8 (by decide))
        refine w_if ⟨by omega, by omega⟩ (fun e0 => lt_i ?_) (fun e0 => ⟨⟨by omega, by omega⟩, ?_⟩)
        · have m0 : m = 0 := by omega
          subst m0
          refine LP1_for (U c + D c) (fun k z => U c ≤ k ∧ (∀ x, x ≤ U c → z 15 x = (dnF (prOf (zM 1)) U c (U c - x) : Nat)) ∧ (∀ x, U c ≤ x → x ≤ k → z 15 x = (dnF (prOf (zM 1)) D c (x - U c) : Nat)) ∧ ∀ d, d ≠ 15 → z d = y d) (U c) rfl (by omega) ⟨Nat.le_refl _, fun x hx => m2 x (by omega) hx, fun x p q => ?_, m3⟩ (fun Y k z2 hk hI hY => ?_) (fun Y z2 hI => ?_)
          · have : x = U c := by omega
            subst this
            rw [m2 (U c) (by omega) (Nat.le_refl _), Nat.sub_self]; rfl
          · obtain ⟨n1, n2, n3, n4⟩ := hI
            have v28 : z2 0 28 = ((U c + D c + 1 : Nat) : Int) := by rw [n4 0 (by decide)]; exact e28
            rw [v28]
            refine w_if2 ⟨by omega, by omega⟩ ⟨by omega, by omega⟩ (fun r => absurd r (by omega)) (fun _ => ⟨⟨by omega, by omega⟩, ?_⟩)
            obtain ⟨t1, t2⟩ := dnD (k - U c) (by omega)
            rw [Int.toNat_natCast, n3 k n1 (Nat.le_refl _)]
            refine w_X10_under (pr := prOf (zM 1)) oD t1 (y7.to (n4 7 (by decide))) (y8.to (n4 8 (by decide))) (fun p => (pB p).1) (fun p => (pB p).2.1) (fun _ => rfl) (fun p hp => by rw [n4 14 (by decide)]; exact yD p hp) (exD _ (by omega) (by omega)) (fun _ => ⟨⟨by omega, by omega⟩, hp_i (lt_i (hY _ ⟨by omega, fun x hx => ?_, fun x p q => ?_, fun d hd => by funext j; rw [kup_c hd, n4 d hd]⟩))⟩)
            · rw [kup_n (fun r => by have := r.2; omega)]; exact n2 x hx
            · by_cases g : x = k + 1
              · subst g
                rw [show ((k : Int) + 1).toNat = k + 1 by omega, kup_eq, show k + 1 - U c = (k - U c) + 1 by omega]; rfl
              · rw [kup_n (fun r => by have := r.2; omega)]; exact n3 x p (by omega)
          · obtain ⟨n1, n2, n3, n4⟩ := hI
            have v28 : z2 0 28 = ((U c + D c + 1 : Nat) : Int) := by rw [n4 0 (by decide)]; exact e28
            rw [v28]
            refine w_if2 ⟨by omega, by omega⟩ ⟨by omega, by omega⟩ (fun _ => ⟨⟨by omega, by omega⟩, ?_, ?_⟩) (fun r => absurd (by omega) r)
            · rw [hv]
              by_cases g : i ≤ U c
              · rw [if_pos g]; exact (n2 i g).symm
              · rw [if_neg g]; exact (n3 i (by omega) (by omega)).symm
            · exact hi.scrM (fun d d0 _ q => n4 d (by omega)) (fun j _ _ _ _ _ => by rw [n4 0 (by decide)])
        · obtain ⟨m', rfl⟩ : ∃ m', m = m' + 1 := ⟨m - 1, by omega⟩
          obtain ⟨t1, t2⟩ := dnU (U c - (m' + 1)) (by omega)
          rw [Int.toNat_natCast, m2 (m' + 1) (Nat.le_refl _) m1]
          refine w_X10_under (pr := prOf (zM 1)) oU t1 z7 z8 (fun p => (pB p).1) (fun p => (pB p).2.1) (fun _ => rfl) zU (exU _ (by omega) (by omega)) (fun _ => ⟨⟨by omega, by omega⟩, hp_i (lt_i ?_)⟩)
          rw [show (((m' + 1 : Nat) : Int) - 1).toNat = m' by omega, show (((m' + 1 : Nat) : Int) + -1) = (m' : Int) by omega]
          refine hX m' m' _ (by omega) ⟨rfl, by omega, fun x p q => ?_, fun d hd => by funext j; rw [kup_c hd, m3 d hd]⟩
          by_cases g : x = m'
          · subst g
            rw [kup_eq, show U c - x = (U c - (x + 1)) + 1 by omega]; rfl
          · rw [kup_n (fun r => g r.2)]; exact m2 x (by omega) q)
      unfold cal_X7_stop
      rw [d3]
      refine w_if2 hc ⟨by omega, by omega⟩ (fun e1 => ?_) (fun e1 => ?_)
      · rw [show (i : Int) - ((U c : Nat) : Int) = ((i - U c : Nat) : Int) by omega]
        exact wD (i - U c) _ (by omega) (fin _ (by rw [if_neg (by omega)]))
      · rw [show ((U c : Nat) : Int) - (i : Int) = ((U c - i : Nat) : Int) by omega]
        exact wU (U c - i) _ (by omega) (fin _ (by rw [if_pos (by omega)]))
