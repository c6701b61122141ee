/-! the reference's titles -/
def ttM (v7 v8 v9 v4 : Int) (z5 : Hp) (K : Hp → Prop) : Prop :=
  jn (fun J10 : Hp → Prop => rg v9 ∧ if v9 = 0 then (J10 z5) else (cal_X10_writes_ 28 z5 (fun z30 => J10 z30))) (fun z11 => jn (fun J12 : Hp → Prop => rg v7 ∧ if v7 = 0 then (rg v8 ∧ if v8 = 0 then (cal_X10_writes_ 29 z11 (fun z29 => K z29)) else (J12 z11)) else (J12 z11)) (fun z13 => rg v7 ∧ if v7 = 0 then (cal_X10_grands (v8 - 1) z13 (fun z27 => cal_X10_writesBy v4 31 32 33 z27 (fun z28 => K z28))) else (rg v8 ∧ if v8 = 0 then (cal_X10_grands (v7 - 1) z13 (fun z25 => cal_X10_writesBy v4 34 35 36 z25 (fun z26 => K z26))) else (jn (fun J14 : Hp → Prop => rg v7 ∧ if v7 = 1 then (rg v8 ∧ if v8 = 1 then (cal_X10_writesBy v4 37 38 39 z13 (fun z24 => K z24)) else (J14 z13)) else (J14 z13)) (fun z15 => rg v7 ∧ if v7 = 1 then (cal_X10_grands (v8 - 2) z15 (fun z22 => cal_X10_writesBy v4 40 41 42 z22 (fun z23 => K z23))) else (rg v8 ∧ if v8 = 1 then (cal_X10_grands (v7 - 2) z15 (fun z20 => cal_X10_writesBy v4 43 44 45 z20 (fun z21 => K z21))) else (cal_X10_writes_ 46 z15 (fun z16 => rg v7 ∧ rg v8 ∧ cal_X10_writesNumber 6 ((if v8 < v7 then v8 else v7) - 1) z16 (fun z17 => rg v7 ∧ rg v8 ∧ if v7 = v8 then (K z17) else (cal_X10_writes 47 z17 (fun z18 => rg (v7 - v8) ∧ cal_X10_writesNumber 6 (if 0 ≤ (v7 - v8) then (v7 - v8) else 0 - (v7 - v8)) z18 (fun z19 => K z19))))))))))))
set_option maxHeartbeats 1000000 in
theorem w_ttM {u d sx : Nat} {hf : Int} {z : Hp} {K : Hp → Prop} (hu : u < 30) (hd : d < 30) (hh : hf = 0 ∨ hf = 1) (hs : sx < 4) (hT : TxM z []) (k : ∀ z' : Hp, TxM z' (ttl u d hf sx) → MF z z' → K z') : ttM u d hf sx z K := by
  have b1 : ∀ sx, bs sx 31 32 33 = bs sx 3 4 5 := fun _ => rfl
  have b2 : ∀ sx, bs sx 34 35 36 = bs sx 6 7 8 := fun _ => rfl
  have b3 : ∀ sx, bs sx 37 38 39 = bs sx 9 10 11 := fun _ => rfl
  have b4 : ∀ sx, bs sx 40 41 42 = bs sx 12 13 14 := fun _ => rfl
  have b5 : ∀ sx, bs sx 43 44 45 = bs sx 15 16 17 := fun _ => rfl
  unfold ttM
  refine jn_i (fun J => ∀ z', TxM z' (if hf = 0 then [] else kTx 0) → MF z z' → J z') (fun z1 t1 f1 => ?_) (fun J hJ => w_if (by rcases hh with rfl | rfl <;> constructor <;> decide) (fun e => ?_) (fun e => ?_))
  rotate_left
  · rw [if_pos e] at hJ; exact hJ z hT MF.rf
  · rw [if_neg e] at hJ; exact w_writesS hT (by decide) (fun z' a b => hJ z' (by rw [List.nil_append] at a; exact a) b)
  unfold ttl at k
  have lH : (if hf = 0 then ([] : List Int) else kTx 0).length ≤ 8 := by
    split
    · exact Nat.zero_le _
    · exact kTx_l8 0 (by decide)
  generalize (if hf = 0 then ([] : List Int) else kTx 0) = L0 at *
  have ru : rg (u : Int) := ⟨by omega, by omega⟩
  have rd : rg (d : Int) := ⟨by omega, by omega⟩
  refine jn_i (fun J => ¬ (u = 0 ∧ d = 0) → J z1) (fun c00 => ?_) (fun J hJ => w_if ru (fun e => w_if rd (fun e' => ?_) (fun e' => hJ (fun q => e' (by omega)))) (fun e => hJ (fun q => e (by omega))))
  rotate_left
  · unfold ttB at k
    rw [if_pos ⟨by omega, by omega⟩] at k
    have e29 : kTx 29 = kTx 1 := rfl
    exact w_writesS t1 (by rw [e29]; have := kTx_l8 1 (by decide); omega) (fun z' a b => k z' (by rw [e29] at a; exact a) (f1.tr b))
  have gl := grT_len
  have go : ∀ (n : Nat) (x : Int) (s3 s4 s5 : Nat), x = n → n ≤ 30 → s3 < 47 → s4 < 47 → s5 < 47 → ttB u d sx = grT n ++ bs sx s3 s4 s5 → cal_X10_grands x z1 (fun z17 => cal_X10_writesBy sx s3 s4 s5 z17 (fun z18 => K z18)) := fun n x s3 s4 s5 hx hn q3 q4 q5 he => by
    rw [he] at k
    refine w_grands hx t1 hn (by omega) (fun z2 t2 f2 => w_writesBy t2 hs q3 q4 q5 (by rw [List.length_append, gl]; omega) (fun z3 t3 f3 => k z3 ?_ (f1.tr (f2.tr f3))))
    rw [← List.append_assoc]; exact t3
  refine w_if ru (fun e => ?_) (fun e => w_if rd (fun e' => ?_) (fun e' => ?_))
  · refine go (d - 1) _ 31 32 33 (by omega) (by omega) (by decide) (by decide) (by decide) ?_
    unfold ttB
    rw [if_neg c00, if_pos (by omega), b1]
  · refine go (u - 1) _ 34 35 36 (by omega) (by omega) (by decide) (by decide) (by decide) ?_
    unfold ttB
    rw [if_neg c00, if_neg (by omega), if_pos (by omega), b2]
  · refine jn_i (fun J => ¬ (u = 1 ∧ d = 1) → J z1) (fun c11 => ?_) (fun J hJ => w_if ru (fun g => w_if rd (fun g' => ?_) (fun g' => hJ (fun q => g' (by omega)))) (fun g => hJ (fun q => g (by omega))))
    rotate_left
    · have : ttB u d sx = bs sx 37 38 39 := by unfold ttB; rw [if_neg c00, if_neg (by omega), if_neg (by omega), if_pos ⟨by omega, by omega⟩, b3]
      rw [this] at k
      exact w_writesBy t1 hs (by decide) (by decide) (by decide) (by omega) (fun z' a b => k z' a (f1.tr b))
    refine w_if ru (fun g => ?_) (fun g => w_if rd (fun g' => ?_) (fun g' => ?_))
    · refine go (d - 2) _ 40 41 42 (by omega) (by omega) (by decide) (by decide) (by decide) ?_
      unfold ttB
      rw [if_neg c00, if_neg (by omega), if_neg (by omega), if_neg c11, if_pos (by omega), b4]
    · refine go (u - 2) _ 43 44 45 (by omega) (by omega) (by decide) (by decide) (by decide) ?_
      unfold ttB
      rw [if_neg c00, if_neg (by omega), if_neg (by omega), if_neg c11, if_neg (by omega), if_pos (by omega), b5]
    · have et : ttB u d sx = (kTx 46 ++ dig ((min u d : Nat) - 1 : Int)) ++ (if u = d then [] else 47 :: dig (if (u : Int) < d then (d : Int) - u else (u : Int) - d)) := by
        unfold ttB
        rw [if_neg c00, if_neg (by omega), if_neg (by omega), if_neg c11, if_neg (by omega), if_neg (by omega)]
        rfl
      rw [et] at k
      obtain ⟨q1, q2, q3, q4⟩ := cous hu hd
      have l18 := kTx_l8 46 (by decide)
      rw [q1, q2]
      have dl := (dig_len ((min u d : Nat) - 1 : Int)).1
      refine w_writesS t1 (by omega) (fun z2 t2 f2 => ⟨ru, rd, w_writesNumber 5 t2 ⟨by omega, by omega⟩ (by omega) (by rw [List.length_append]; omega) (fun z3 t3 f3 => w_if2 ru rd (fun w => ?_) (fun w => ?_))⟩)
      · rw [if_pos (by omega), List.append_nil] at k
        refine k z3 ?_ (f1.tr (f2.tr f3))
        rw [← List.append_assoc]; exact t3
      · rw [if_neg (by omega)] at k
        have dl2 := (dig_len (if (u : Int) < d then (d : Int) - u else (u : Int) - d)).1
        have l3 : (L0 ++ kTx 46 ++ dig ((min u d : Nat) - 1 : Int)).length ≤ 30 := by rw [List.length_append, List.length_append]; omega
        refine w_writes t3 (by omega) (fun z4 t4 f4 => ⟨⟨by omega, by omega⟩, w_writesNumber 5 t4 ⟨by omega, by omega⟩ (by omega) (by rw [List.length_append, List.length_singleton]; omega) (fun z5 t5 f5 => k z5 ?_ (f1.tr (f2.tr (f3.tr (f4.tr f5)))))⟩)
        have : L0 ++ (kTx 46 ++ dig ((min u d : Nat) - 1 : Int) ++ 47 :: dig (if (u : Int) < d then (d : Int) - u else (u : Int) - d)) = L0 ++ kTx 46 ++ dig ((min u d : Nat) - 1 : Int) ++ [47] ++ dig (if (u : Int) < d then (d : Int) - u else (u : Int) - d) := by
          simp only [List.append_assoc, List.singleton_append]
        rw [this]; exact t5
theorem TxM.fr {z z' : Hp} {L : List Int} (h : TxM z L) (e4 : z' 4 = z 4) (e7 : z' 0 7 = z 0 7) : TxM z' L := ⟨by rw [e7]; exact h.1, by rw [e4]; exact h.2⟩
set_option maxHeartbeats 2000000 in
theorem inv_op26 : op26 Inv := by
  intro a1 a2 zC zM ha hb h
  have h1 := h.1
  have hn := h1.n
  have b0 := h.2.1.1
  obtain ⟨r0, r1, r2, r3⟩ := rgS h1
  unfold cal_X9_title
  refine w_X9_arePersons ha hb (by rw [b0]; exact r0) (fun q => w_t rg1 ?_) (fun q => w_f rg0 ?_)
  rotate_left
  · rw [b0] at q
    exact w_X10_areTwo ha hb r2 (fun r => absurd r q) (fun _ => w_f rg0 ⟨rfl, h⟩)
  rw [b0] at q
  refine w_settle h (fun z' h' _ st _ => ?_)
  obtain ⟨a, rfl⟩ : ∃ a : Nat, a1 = a := ⟨a1.toNat, by omega⟩
  obtain ⟨b, rfl⟩ : ∃ b : Nat, a2 = b := ⟨a2.toNat, by omega⟩
  have hpa : a < sN (zM 1) := by omega
  have hpb : b < sN (zM 1) := by omega
  have hgg := gOf_good h1
  have hga := hgg.lt hpa
  have hgb := hgg.lt hpb
  have hpr := prOf_ok h1
  have pB := fun p => prB h1 p
  have st' := st
  obtain ⟨ab, sx, hab, hF, ⟨r6, r7, r8, r9⟩, _⟩ := st'
  obtain ⟨_, hcnt, hall, R1, R2, ⟨R3, R4, R5, R6, R8, R9⟩, R7, ring⟩ := hF
  have hlv := lv_ok h1 (Nat.le_refl _)
  have hsxb : ∀ p, sxL (zM 1) (gOf (zM 1)) (sxK (zM 1) (gOf (zM 1)) (sN (zM 1))) (lv (zM 1)) p < 4 := sxL_ok (sxK_lt _ (fun p hp => (h1.2.2.1 p hp).2)) _
  have hsxe : ∀ p, sxL (zM 1) (gOf (zM 1)) (sxK (zM 1) (gOf (zM 1)) (sN (zM 1))) (lv (zM 1)) p = sxR (zM 1) (gOf (zM 1)) (moOf (zM 1)) (faOf (zM 1)) p (sN (zM 1)) := fun p => sx_eq hgg hlv p
  have R3 : Row z' 91 (sxL (zM 1) (gOf (zM 1)) (sxK (zM 1) (gOf (zM 1)) (sN (zM 1))) (lv (zM 1))) := R3
  refine w_seekWays h1 st hpa hpb (fun z'' hW hf => hp_i ?_)
  have ia : inb (a : Int) 30 := ⟨by omega, by omega⟩
  have ib : inb (b : Int) 30 := ⟨by omega, by omega⟩
  obtain ⟨hB, hA1, hA2⟩ := hW
  have f1 : TF 83 z'' (kup z'' 83 1 0) := ⟨fun j hj => kup_n (fun r => hj r.2), fun c c0 _ => by funext i; exact kup_c c0⟩
  have t1 : Txt (kup z'' 83 1 0) 83 [] := Txt.nil
  generalize kup z'' 83 1 0 = z4 at *
  have e4 : ∀ c, c ≠ 83 → c ≠ 84 → c ≠ 133 → c ≠ 134 → c ≠ 135 → z4 c = z' c := fun c p q r s t => by rw [f1.2 c p q, hf c r s t]
  have Q1 : Row z4 89 (gOf (zM 1)) := Row.to R1 (e4 89 (by decide) (by decide) (by decide) (by decide) (by decide))
  have Q3 := R3.to (e4 91 (by decide) (by decide) (by decide) (by decide) (by decide))
  have Q4 : Row z4 92 (moOf (zM 1)) := Row.to R4 (e4 92 (by decide) (by decide) (by decide) (by decide) (by decide))
  have Q5 : Row z4 93 (faOf (zM 1)) := Row.to R5 (e4 93 (by decide) (by decide) (by decide) (by decide) (by decide))
  have Q6 : Row z4 94 (prOf (zM 1)) := Row.to R6 (e4 94 (by decide) (by decide) (by decide) (by decide) (by decide))
  have Q8 : Row z4 96 (spL (zM 1) (gOf (zM 1)) (lv (zM 1))) := Row.to R8 (e4 96 (by decide) (by decide) (by decide) (by decide) (by decide))
  dsimp only
  rw [Int.toNat_natCast, Int.toNat_natCast, Q1 b (by omega), Q1 a (by omega), Int.toNat_natCast, Q3 _ (by omega), hsxe]
  have sx4 : sxR (zM 1) (gOf (zM 1)) (moOf (zM 1)) (faOf (zM 1)) (gOf (zM 1) b) (sN (zM 1)) < 4 := by rw [← hsxe]; exact hsxb _
  refine ⟨ib, ⟨by omega, by omega⟩, lt_i ?_⟩
  -- the reference
  have hI2 : Inv z'' zM := h'.scr (fun c _ _ q => hf c (by omega) (by omega) (by omega))
  have ref : ∀ K : Int → Hp → Prop, (∀ (v : Int) (y : Hp), TxM y [] → (∀ j, j ≠ 7 → j ≠ 27 → y 0 j = zM 0 j) → (∀ c, c ≠ 0 → c ≠ 4 → c ≠ 13 → c ≠ 14 → y c = zM c) → v = (if bst (dU (prOf (zM 1)) (gOf (zM 1) a)) (dU (prOf (zM 1)) (gOf (zM 1) b)) 30 = 30 then 0 else 1) → WayM y (dU (prOf (zM 1)) (gOf (zM 1) a)) (dU (prOf (zM 1)) (gOf (zM 1) b)) → (rg v ∧ if v = 0 then (inb (a : Int) 30 ∧ cal_X10_marriedTo (y 6 (a : Int).toNat) y (fun v31 => inb (b : Int) 30 ∧ cal_X10_has v31 (y 6 (b : Int).toNat) y (fun v32 => rg v32 ∧ if v32 = 0 then (cal_X10_writes_ 27 y (fun z33 => K (z33 0 7) z33)) else (cal_X10_writesBy (sxR (zM 1) (gOf (zM 1)) (moOf (zM 1)) (faOf (zM 1)) (gOf (zM 1) b) (sN (zM 1)) : Nat) 24 25 26 y (fun z34 => K (z34 0 7) z34))))) else (inb (y 0 27) 30 ∧ lt1 (y 13 (y 0 27).toNat) (fun v7 => inb (y 0 27) 30 ∧ lt1 (y 14 (y 0 27).toNat) (fun v8 => cal_X10_isHalf y (fun v9 => ttM v7 v8 v9 (sxR (zM 1) (gOf (zM 1)) (moOf (zM 1)) (faOf (zM 1)) (gOf (zM 1) b) (sN (zM 1)) : Nat) y (fun z => K (z 0 7) z))))))) → cal_X10_title a b zM K := fun K hK => by
    refine w_X10_areTwo ha hb r2 (fun _ => w_t rg1 (hp_i ⟨ib, ?_⟩)) (fun r => absurd q r)
    have tm : TxM (kup zM 0 7 0) [] := TxM.nil
    have fm : MF zM (kup zM 0 7 0) := ⟨fun j hj => kup_n (fun r => hj r.2), fun c c0 _ => by funext i; exact kup_c c0⟩
    generalize kup zM 0 7 0 = m1 at *
    have m6 := r6.to (fm.2 6 (by decide) (by decide))
    have m7 := r7.to (fm.2 7 (by decide) (by decide))
    have m8 := r8.to (fm.2 8 (by decide) (by decide))
    have e1 := fm.2 1 (by decide) (by decide)
    rw [Int.toNat_natCast, m6 b (by omega)]
    refine w_X10_sexes h1 e1 (by omega) m6 m7 m8 (fun x hx => by have := hgg.1 x; omega) (fun x _ => (pB x).1) (fun x _ => (pB x).2.1) (lt_i ?_)
    refine w_X10_meets hn.2 (by omega) (by omega) hga hgb hpr (by rw [e1]; exact hn.1) m6 m7 m8 (fun x _ => (pB x).1) (fun x _ => (pB x).2.1) (fun v y hv hy g0 g => hK v y (tm.fr (g 4 (by decide) (by decide) (by decide)) (g0 7 (by decide))) (fun j q1 q2 => by rw [g0 j q2, fm.1 j q1]) (fun c p q r s => by rw [g c p r s, fm.2 c p q]) hv hy)
  have hsp : spL (zM 1) (gOf (zM 1)) (lv (zM 1)) (gOf (zM 1) a) < 1073741824 := p30 hn.2 (spL_ok (S := zM 1) hgg (lv (zM 1)) hlv _)
  generalize hsx : sxR (zM 1) (gOf (zM 1)) (moOf (zM 1)) (faOf (zM 1)) (gOf (zM 1) b) (sN (zM 1)) = sv at *
  have done : ∀ (zf y yf : Hp) (L : List Int), L.length ≤ 400 → Txt zf 83 L → TF 83 z4 zf → TxM yf L → MF y yf → (∀ j, j ≠ 7 → j ≠ 27 → y 0 j = zM 0 j) → (∀ c, c ≠ 0 → c ≠ 4 → c ≠ 13 → c ≠ 14 → y c = zM c) → zf 83 1 = yf 0 7 ∧ Inv zf yf := fun zf y yf L hl tC fC tM fM g0 g => by
    have fC' := f1.tr fC
    refine ⟨by rw [tC.1, tM.1], hI2.upd (fun c p q => fC'.2 c (by omega) (by omega)) (fun j _ => by rw [fC'.2 0 (by decide) (by decide)]) (fun c p => fC'.2 c (by omega) (by omega)) (by rw [fM.2 1 (by decide) (by decide), g 1 (by decide) (by decide) (by decide) (by decide)]) (by rw [fM.2 2 (by decide) (by decide), g 2 (by decide) (by decide) (by decide) (by decide)]) (fun c p q => by rw [fM.2 c (by omega) (by omega), g c (by omega) (by omega) (by omega) (by omega)]) (fun j hj => by rw [fM.1 j (by omega), g0 j (by omega) (by omega)]) (hI2.2.2.2.1.to (fC'.2 81 (by decide) (by decide)) (fC'.2 82 (by decide) (by decide)) (by rw [fM.2 3 (by decide) (by decide), g 3 (by decide) (by decide) (by decide) (by decide)]) (by rw [fM.1 6 (by decide), g0 6 (by decide) (by decide)])) (IPp.of hl tC tM) (hI2.2.2.2.2.2.1.to (fun c p q => fC'.2 c (by omega) (by omega)) (by rw [fM.2 18 (by decide) (by decide), g 18 (by decide) (by decide) (by decide) (by decide)]) (by rw [fM.2 19 (by decide) (by decide), g 19 (by decide) (by decide) (by decide) (by decide)]))⟩
  rcases hB with ⟨d1, d2⟩ | ⟨d1, d2, d3, d4⟩
  · have d2' : z4 133 2 = -1 := by rw [f1.2 133 (by decide) (by decide)]; exact d2
    rw [d2']
    refine ⟨⟨by decide, by decide⟩, ?_⟩
    rw [if_pos (by decide)]
    refine ⟨ia, ib, ?_⟩
    unfold cal_X1_areMarried
    rw [Int.toNat_natCast, show 88 + 8 = 96 from rfl, Q8 _ (by omega)]
    have l22 : (kTx 22).length ≤ 8 := kTx_l8 22 (by decide)
    have e27 : kTx 27 = kTx 22 := rfl
    have e24 : ∀ sx, bs sx 24 25 26 = bs sx 19 20 21 := fun _ => rfl
    refine ⟨⟨by omega, by omega⟩, w_X1_has hsp (by omega) (fun hbit => ⟨bz1, w_t rg1 ?_⟩) (fun hbit => ⟨bz0, w_f rg0 ?_⟩)⟩
    · refine w_putBySex t1 sx4 (by decide) (by decide) (by decide) (by simp) (fun zf tC fC => ref _ (fun v y ty g0 g hv hy => ?_))
      rw [if_pos d1] at hv
      subst hv
      refine w_f rg0 ⟨ia, ?_⟩
      rw [Int.toNat_natCast, Int.toNat_natCast, Row.to r6 (g 6 (by decide) (by decide) (by decide) (by decide)) a (by omega), Row.to r6 (g 6 (by decide) (by decide) (by decide) (by decide)) b (by omega)]
      refine w_X10_marriedTo h1 (g 1 (by decide) (by decide) (by decide) (by decide)) (Row.to r6 (g 6 (by decide) (by decide) (by decide) (by decide))) hgg (by omega) ⟨ib, w_X10_has hsp (by omega) (fun _ => w_t rg1 (w_writesBy ty sx4 (by decide) (by decide) (by decide) (by simp) (fun yf tM fM => ?_))) (fun hb2 => by rw [hbit] at hb2; cases hb2)⟩
      rw [e24] at tM
      have bl := bs_len (sx := sv) (s3 := 19) (s4 := 20) (s5 := 21) (by decide) (by decide) (by decide)
      exact done zf y yf _ (by rw [List.nil_append]; omega) tC fC tM fM g0 g
    · refine w_putAll t1 (by rw [klT83, List.length_nil]; omega) (by rw [klT83]; omega) (by decide) (fun zf tC fC => ref _ (fun v y ty g0 g hv hy => ?_))
      rw [if_pos d1] at hv
      subst hv
      refine w_f rg0 ⟨ia, ?_⟩
      rw [Int.toNat_natCast, Int.toNat_natCast, Row.to r6 (g 6 (by decide) (by decide) (by decide) (by decide)) a (by omega), Row.to r6 (g 6 (by decide) (by decide) (by decide) (by decide)) b (by omega)]
      refine w_X10_marriedTo h1 (g 1 (by decide) (by decide) (by decide) (by decide)) (Row.to r6 (g 6 (by decide) (by decide) (by decide) (by decide))) hgg (by omega) ⟨ib, w_X10_has hsp (by omega) (fun hb2 => by rw [hbit] at hb2; cases hb2) (fun _ => w_f rg0 (w_writesS ty (by rw [e27, List.length_nil]; omega) (fun yf tM fM => ?_)))⟩
      rw [e27] at tM
      exact done zf y yf _ (by rw [List.nil_append]; omega) tC fC tM fM g0 g
  · rcases bst_ok (U := dU (prOf (zM 1)) (gOf (zM 1) a)) (D := dU (prOf (zM 1)) (gOf (zM 1) b)) 30 (Nat.le_refl _) with c | ⟨c1, c2, c3⟩
    · omega
    have d2' : z4 133 2 = (bst (dU (prOf (zM 1)) (gOf (zM 1) a)) (dU (prOf (zM 1)) (gOf (zM 1) b)) 30 : Nat) := by rw [f1.2 133 (by decide) (by decide)]; exact d2
    have d3' : z4 133 3 = (dU (prOf (zM 1)) (gOf (zM 1) a) (bst (dU (prOf (zM 1)) (gOf (zM 1) a)) (dU (prOf (zM 1)) (gOf (zM 1) b)) 30) : Nat) := by rw [f1.2 133 (by decide) (by decide)]; exact d3
    have d4' : z4 133 4 = (dU (prOf (zM 1)) (gOf (zM 1) b) (bst (dU (prOf (zM 1)) (gOf (zM 1) a)) (dU (prOf (zM 1)) (gOf (zM 1) b)) 30) : Nat) := by rw [f1.2 133 (by decide) (by decide)]; exact d4
    have oU := okU (prOf (zM 1)) (gOf (zM 1) a) (bst (dU (prOf (zM 1)) (gOf (zM 1) a)) (dU (prOf (zM 1)) (gOf (zM 1) b)) 30)
    have oD := okU (prOf (zM 1)) (gOf (zM 1) b) (bst (dU (prOf (zM 1)) (gOf (zM 1) a)) (dU (prOf (zM 1)) (gOf (zM 1) b)) 30)
    rw [d2']
    refine ⟨⟨by omega, by omega⟩, ?_⟩
    rw [if_neg (by omega)]
    have main : ∀ hf' : Int, ((hf' = 1 ∧ HalfP (zM 1) (gOf (zM 1) a) (gOf (zM 1) b) (bst (dU (prOf (zM 1)) (gOf (zM 1) a)) (dU (prOf (zM 1)) (gOf (zM 1) b)) 30)) ∨ (hf' = 0 ∧ ¬ HalfP (zM 1) (gOf (zM 1) a) (gOf (zM 1) b) (bst (dU (prOf (zM 1)) (gOf (zM 1) a)) (dU (prOf (zM 1)) (gOf (zM 1) b)) 30))) → cal_X6_putKin 83 133 hf' sv z4 (fun z10 => cal_X10_title a b zM (fun r' zM' => z10 83 1 = r' ∧ Inv z10 zM')) := fun hf' hh => by
      have h01 : hf' = 0 ∨ hf' = 1 := hh.elim (fun r => Or.inr r.1) (fun r => Or.inl r.1)
      refine w_putKin d3' d4' (by omega) (by omega) h01 sx4 t1 (fun zf tC lC fC => ref _ (fun v y ty g0 g hv hy => ?_))
      rw [if_neg (by omega)] at hv
      subst hv
      obtain ⟨e1, e2, e3⟩ := hy
      rw [if_neg (by omega)] at e1
      have y7 := Row.to r7 (g 7 (by decide) (by decide) (by decide) (by decide))
      have y8 := Row.to r8 (g 8 (by decide) (by decide) (by decide) (by decide))
      have half : ∀ K : Int → Prop, K hf' → cal_X10_isHalf y K := fun K hK => w_X10_isHalf h1 hga hgb c1 c2 c3 e1 y7 y8 e2 e3 (fun p => hh.elim (fun r => by rw [← r.1]; exact hK) (fun r => absurd p r.2)) (fun p => hh.elim (fun r => absurd r.2 p) (fun r => by rw [← r.1]; exact hK))
      refine w_t rg1 ?_
      rw [e1, Int.toNat_natCast, e2 _ c1, e3 _ c1]
      exact ⟨⟨by omega, by omega⟩, lt_i ⟨⟨by omega, by omega⟩, lt_i (half _ (w_ttM (by omega) (by omega) h01 sx4 ty (fun yf tM fM => done zf y yf _ lC tC fC tM fM g0 g)))⟩⟩
    have A1 : ∀ p, p < 30 → z4 134 p = cU (dU (prOf (zM 1)) (gOf (zM 1) a)) p := fun p hp => by rw [f1.2 134 (by decide) (by decide)]; exact hA1 p hp
    have A2 : ∀ p, p < 30 → z4 135 p = cU (dU (prOf (zM 1)) (gOf (zM 1) b)) p := fun p hp => by rw [f1.2 135 (by decide) (by decide)]; exact hA2 p hp
    exact w_X7_isHalf h1 hga hgb c1 c2 c3 d2' d3' d4' Q4 Q5 Q6 A1 A2 (fun p => main 1 (Or.inl ⟨rfl, p⟩)) (fun p => main 0 (Or.inr ⟨rfl, p⟩))
