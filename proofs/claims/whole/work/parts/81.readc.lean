/-! the class's reading -/
theorem fo_rg {f : Int} (h : fo f) : rg f := by unfold fo at h; rcases h with rfl | h <;> constructor <;> omega
set_option maxHeartbeats 2000000 in
theorem w_X4_reads {n N : Nat} {T : Nat → Int} {z : Hp} {K : Int → Hp → Prop} (h : TpC z n T) (hN : N ≤ 30) (k : ∀ (v : Int) (z' : Hp), z' 85 5 = pF T n N → ((v = 1 ∧ pF T n N < 0 ∧ z' 85 0 = pS T n ∧ z' 85 1 = (q1 T n N).2.2 ∧ z' 85 2 = (q2 T n N).2.2 ∧ z' 85 3 = (q3 T n N).2.2 ∧ z' 85 4 = (q4 T n N).2.2) ∨ (v = 0 ∧ 0 ≤ pF T n N)) → (∀ c, c ≠ 85 → z' c = z c) → K v z') : cal_X4_reads 85 81 N z K := by
  have n60 := h.2.1
  obtain ⟨o1, o1p, o1v, o1k⟩ := q1_ok (T := T) (n := n) (N := N) n60
  obtain ⟨o2, o2p, o2v, o2k⟩ := q2_ok (T := T) (n := n) (N := N) n60
  obtain ⟨o3, o3p, o3v, o3k⟩ := q3_ok (T := T) (n := n) (N := N) n60
  obtain ⟨o4, o4p, o4v, o4k⟩ := q4_ok (T := T) (n := n) (N := N) n60
  have sb := pS_bd T n
  have hpf := pF_fo (T := T) (n := n) (N := N) n60
  unfold cal_X4_reads
  refine hp_i (hp_i (hp_i (hp_i ?_)))
  have g2 : kup (kup (kup (kup z 85 2 (-5)) 85 3 (-5)) 85 4 (-5)) 85 5 (-1) 85 2 = -5 := by rw [kup_n (by decide), kup_n (by decide), kup_n (by decide), kup_eq]
  have g3 : kup (kup (kup (kup z 85 2 (-5)) 85 3 (-5)) 85 4 (-5)) 85 5 (-1) 85 3 = -5 := by rw [kup_n (by decide), kup_n (by decide), kup_eq]
  have g4 : kup (kup (kup (kup z 85 2 (-5)) 85 3 (-5)) 85 4 (-5)) 85 5 (-1) 85 4 = -5 := by rw [kup_n (by decide), kup_eq]
  have g5 : kup (kup (kup (kup z 85 2 (-5)) 85 3 (-5)) 85 4 (-5)) 85 5 (-1) 85 5 = -1 := kup_eq
  have gf : ∀ c, c ≠ 85 → kup (kup (kup (kup z 85 2 (-5)) 85 3 (-5)) 85 4 (-5)) 85 5 (-1) c = z c := fun c hc => by funext i; rw [kup_c hc, kup_c hc, kup_c hc, kup_c hc]
  generalize kup (kup (kup (kup z 85 2 (-5)) 85 3 (-5)) 85 4 (-5)) 85 5 (-1) = z4 at *
  have tp : ∀ y : Hp, (∀ c, c ≠ 85 → y c = z c) → TpC y n T := fun y hy => by unfold TpC; rw [hy 81 (by decide), hy 82 (by decide)]; exact h
  have go : cal_X4_sortOf (if n = 0 then -1 else T 0) z4 (fun v6 => hp1 (kup z4 85 0 v6) (fun z7 => rg (z7 85 0) ∧ if 0 ≤ (z7 85 0) then (hp1 (kup z7 85 6 1) (fun z8 => cal_X4_takeNumber 85 81 0 ((N : Int) - 1) z8 (fun v10 z9 => hp1 (kup z9 85 1 v10) (fun z11 => cal_X4_tellsTwo (z11 85 0) z11 (fun v12 => jn (fun J13 : Hp → Prop => rg v12 ∧ if v12 = 0 then (J13 z11) else (cal_X4_takeNumber 85 81 0 ((N : Int) - 1) z11 (fun v34 z33 => hp1 (kup z33 85 2 v34) (fun z35 => rg (z35 85 5) ∧ if 0 ≤ (z35 85 5) then (J13 z35) else (rg (z35 85 2) ∧ rg (z35 85 1) ∧ if (z35 85 2) = (z35 85 1) then (hp1 (kup z35 85 5 (z35 85 7)) (fun z36 => J13 z36)) else (J13 z35)))))) (fun z14 => cal_X4_tellsLow (z14 85 0) z14 (fun v15 => jn (fun J16 : Hp → Prop => rg v15 ∧ if v15 = 0 then (J16 z14) else (rg (z14 85 0) ∧ if (z14 85 0) = 7 then (cal_X4_takeNumber 85 81 0 99 z14 (fun v31 z30 => hp1 (kup z30 85 3 v31) (fun z32 => J16 z32))) else (cal_X4_takeNumber 85 81 0 3000 z14 (fun v28 z27 => hp1 (kup z27 85 3 v28) (fun z29 => J16 z29))))) (fun z17 => cal_X4_tellsHigh (z17 85 0) z17 (fun v18 => jn (fun J19 : Hp → Prop => rg v18 ∧ if v18 = 0 then (J19 z17) else (cal_X4_takeNumber 85 81 (z17 85 3) 3000 z17 (fun v25 z24 => hp1 (kup z24 85 4 v25) (fun z26 => J19 z26)))) (fun z20 => jn (fun J21 : Hp → Prop => rg (z20 85 5) ∧ if 0 ≤ (z20 85 5) then (J21 z20) else (rg (z20 85 6) ∧ rg (z20 81 1) ∧ if (z20 81 1) ≤ (z20 85 6) then (J21 z20) else (hp1 (kup z20 85 5 (z20 85 6)) (fun z23 => J21 z23)))) (fun z22 => rg (z22 85 5) ∧ if 0 ≤ (z22 85 5) then (K 0 z22) else (K 1 z22)))))))))))) else (hp1 (kup z7 85 5 0) (fun z37 => K 0 z37)))) := by
    have es : sortV (if n = 0 then -1 else T 0) = pS T n := by
      unfold pS
      by_cases c : n = 0
      · rw [if_pos c, if_pos c]; rfl
      · rw [if_neg c, if_neg c]
    refine w_X4_sortOf (by
      by_cases c : n = 0
      · rw [if_pos c]; constructor <;> decide
      · rw [if_neg c]; have := h.2.2 0 (by omega); constructor <;> omega) (hp_i ?_)
    rw [es]
    have s0 : kup z4 85 0 (pS T n) 85 0 = pS T n := kup_eq
    have s2 : kup z4 85 0 (pS T n) 85 2 = -5 := by rw [kup_n (by decide)]; exact g2
    have s3 : kup z4 85 0 (pS T n) 85 3 = -5 := by rw [kup_n (by decide)]; exact g3
    have s4 : kup z4 85 0 (pS T n) 85 4 = -5 := by rw [kup_n (by decide)]; exact g4
    have s5 : kup z4 85 0 (pS T n) 85 5 = -1 := by rw [kup_n (by decide)]; exact g5
    have sf : ∀ c, c ≠ 85 → kup z4 85 0 (pS T n) c = z c := fun c hc => by funext i; rw [kup_c hc, gf c hc]
    generalize kup z4 85 0 (pS T n) = z7 at *
    rw [s0]
    refine w_if ⟨by omega, by omega⟩ (fun e => hp_i ?_) (fun e => hp_i ?_)
    rotate_left
    · -- no sort
      have f0 : pF T n N = 0 := by
        have a1 : q1 T n N = (0, 1, 0) := by unfold q1; rw [if_pos (by omega), nm_f (by decide)]
        have a2 : q2 T n N = (0, 1, 0) := by unfold q2; rw [if_pos (by omega), a1, nm_f (by decide)]
        have a3 : q3 T n N = (0, 1, -5) := by unfold q3; rw [if_neg (by omega), if_neg (by omega), a2]
        have a4 : q4 T n N = (0, 1, -5) := by unfold q4; rw [if_neg (by omega), a3]
        unfold pF
        rw [a4]; rfl
      rw [f0] at k
      exact k 0 _ kup_eq (Or.inr ⟨rfl, Int.le_refl 0⟩) (fun c hc => by funext i; rw [kup_c hc, sf c hc])
    have fneg : (if pS T n < 0 then (0 : Int) else -1) = -1 := if_neg (by omega)
    have e1q : nm T n 0 ((N : Int) - 1) (-1) (-1) 1 = q1 T n N := by unfold q1; rw [fneg]
    refine w_takeNumber (n := n) (p := 1) (T := T) (f := -1) (tp _ (fun c hc => by funext i; rw [kup_c hc, sf c hc])) (Or.inl rfl) (by rw [kup_n (by decide)]; exact s5) (fun _ => by rw [kup_eq]; rfl) (by omega) rg0 ⟨by omega, by omega⟩ (fun v z9 p5 pk pf => hp_i ?_)
    rw [e1q] at p5 pk
    -- behind the first number
    have w0 : kup z9 85 1 v 85 0 = pS T n := by rw [kup_n (by decide), pf.1 0 (by decide) (by decide) (by decide), kup_n (by decide)]; exact s0
    have w5 : kup z9 85 1 v 85 5 = (q1 T n N).1 := by rw [kup_n (by decide)]; exact p5
    have wk : (q1 T n N).1 < 0 → kup z9 85 1 v 85 1 = (q1 T n N).2.2 ∧ kup z9 85 1 v 85 6 = (q1 T n N).2.1 := fun q => ⟨by rw [kup_eq]; exact (pk q).1, by rw [kup_n (by decide)]; exact (pk q).2.1⟩
    have w2 : kup z9 85 1 v 85 2 = -5 := by rw [kup_n (by decide), pf.1 2 (by decide) (by decide) (by decide), kup_n (by decide)]; exact s2
    have w3 : kup z9 85 1 v 85 3 = -5 := by rw [kup_n (by decide), pf.1 3 (by decide) (by decide) (by decide), kup_n (by decide)]; exact s3
    have w4 : kup z9 85 1 v 85 4 = -5 := by rw [kup_n (by decide), pf.1 4 (by decide) (by decide) (by decide), kup_n (by decide)]; exact s4
    have wf : ∀ c, c ≠ 85 → kup z9 85 1 v c = z c := fun c hc => by funext i; rw [kup_c hc, pf.2 c hc, kup_c hc, sf c hc]
    generalize kup z9 85 1 v = z11 at *
    -- the last step
    have last : ∀ y : Hp, y 85 0 = pS T n → y 85 5 = (q4 T n N).1 → ((q4 T n N).1 < 0 → y 85 1 = (q1 T n N).2.2 ∧ y 85 2 = (q2 T n N).2.2 ∧ y 85 3 = (q3 T n N).2.2 ∧ y 85 4 = (q4 T n N).2.2 ∧ y 85 6 = (q4 T n N).2.1) → (∀ c, c ≠ 85 → y c = z c) → jn (fun J21 : Hp → Prop => rg (y 85 5) ∧ if 0 ≤ (y 85 5) then (J21 y) else (rg (y 85 6) ∧ rg (y 81 1) ∧ if (y 81 1) ≤ (y 85 6) then (J21 y) else (hp1 (kup y 85 5 (y 85 6)) (fun z23 => J21 z23)))) (fun z22 => rg (z22 85 5) ∧ if 0 ≤ (z22 85 5) then (K 0 z22) else (K 1 z22)) := fun y y0 y5 yk yf => by
      refine jn_i (fun J => ∀ y' : Hp, y' 85 5 = pF T n N → (∀ j, j ≠ 5 → y' 85 j = y 85 j) → (∀ c, c ≠ 85 → y' c = z c) → J y') (fun y' a b c => ?_) (fun J hJ => ?_)
      · rw [a]
        refine w_if (fo_rg hpf) (fun e => k 0 y' a (Or.inr ⟨rfl, e⟩) c) (fun e => k 1 y' a (Or.inl ⟨rfl, by omega, ?_⟩) c)
        have e4 : (q4 T n N).1 < 0 := by
          unfold pF at e
          by_cases d : 0 ≤ (q4 T n N).1
          · rw [if_pos d] at e; omega
          · omega
        obtain ⟨t1, t2, t3, t4, t6⟩ := yk e4
        exact ⟨by rw [b 0 (by decide)]; exact y0, by rw [b 1 (by decide)]; exact t1, by rw [b 2 (by decide)]; exact t2, by rw [b 3 (by decide)]; exact t3, by rw [b 4 (by decide)]; exact t4⟩
      · rw [y5]
        refine w_if (fo_rg o4) (fun e => hJ y ?_ (fun _ _ => rfl) yf) (fun e => ?_)
        · unfold pF; rw [if_pos e]; exact y5
        · obtain ⟨_, _, _, _, t6⟩ := yk (by omega)
          rw [t6, yf 81 (by decide), h.1]
          refine w_if2 ⟨by omega, by omega⟩ ⟨by omega, by omega⟩ (fun d => hJ y ?_ (fun _ _ => rfl) yf) (fun d => hp_i (hJ _ ?_ (fun j hj => kup_n (fun q => hj q.2)) (fun c hc => by funext i; rw [kup_c hc, yf c hc])))
          · unfold pF
            rw [if_neg e, if_neg (by omega), y5]
            unfold fo at o4
            omega
          · unfold pF
            rw [kup_eq, if_neg e, if_pos (by omega)]
    -- the upper year
    have step4 : ∀ y : Hp, y 85 0 = pS T n → y 85 5 = (q3 T n N).1 → ((q3 T n N).1 < 0 → y 85 1 = (q1 T n N).2.2 ∧ y 85 2 = (q2 T n N).2.2 ∧ y 85 3 = (q3 T n N).2.2 ∧ y 85 6 = (q3 T n N).2.1) → y 85 4 = -5 → rg (y 85 3) → (∀ c, c ≠ 85 → y c = z c) → cal_X4_tellsHigh (y 85 0) y (fun v18 => jn (fun J19 : Hp → Prop => rg v18 ∧ if v18 = 0 then (J19 y) else (cal_X4_takeNumber 85 81 (y 85 3) 3000 y (fun v25 z24 => hp1 (kup z24 85 4 v25) (fun z26 => J19 z26)))) (fun z20 => jn (fun J21 : Hp → Prop => rg (z20 85 5) ∧ if 0 ≤ (z20 85 5) then (J21 z20) else (rg (z20 85 6) ∧ rg (z20 81 1) ∧ if (z20 81 1) ≤ (z20 85 6) then (J21 z20) else (hp1 (kup z20 85 5 (z20 85 6)) (fun z23 => J21 z23)))) (fun z22 => rg (z22 85 5) ∧ if 0 ≤ (z22 85 5) then (K 0 z22) else (K 1 z22)))) := fun y y0 y5 yk y4 yr yf => by
      rw [y0]
      refine w_X4_tellsHigh ⟨by omega, by omega⟩ (fun d => ?_) (fun d => ?_)
      · have e4 : q4 T n N = nm T n (q3 T n N).2.2 3000 (-1) (q3 T n N).1 (q3 T n N).2.1 := by unfold q4; rw [if_pos d]
        have e4' : nm T n (y 85 3) 3000 (-1) (q3 T n N).1 (q3 T n N).2.1 = q4 T n N := by
          rw [e4]
          by_cases c : 0 ≤ (q3 T n N).1
          · rw [nm_f c, nm_f c]
          · rw [(yk (by omega)).2.2.1]
        refine jn_i (fun J => ∀ y' : Hp, y' 85 0 = pS T n → y' 85 5 = (q4 T n N).1 → ((q4 T n N).1 < 0 → y' 85 1 = (q1 T n N).2.2 ∧ y' 85 2 = (q2 T n N).2.2 ∧ y' 85 3 = (q3 T n N).2.2 ∧ y' 85 4 = (q4 T n N).2.2 ∧ y' 85 6 = (q4 T n N).2.1) → (∀ c, c ≠ 85 → y' c = z c) → J y') last (fun J hJ => w_t rg1 ?_)
        refine w_takeNumber (n := n) (p := (q3 T n N).2.1) (T := T) (f := (q3 T n N).1) (tp y yf) o3 y5 (fun q => (yk q).2.2.2) o3p yr ⟨by decide, by decide⟩ (fun v z' r5 rk rf => hp_i ?_)
        rw [e4'] at r5 rk
        refine hJ _ ?_ ?_ (fun q => ?_) (fun c hc => by funext i; rw [kup_c hc, rf.2 c hc, yf c hc])
        · rw [kup_n (by decide), rf.1 0 (by decide) (by decide) (by decide)]; exact y0
        · rw [kup_n (by decide)]; exact r5
        · obtain ⟨t1, t2, t3, _⟩ := yk (o4k q).1
          exact ⟨by rw [kup_n (by decide), rf.1 1 (by decide) (by decide) (by decide)]; exact t1, by rw [kup_n (by decide), rf.1 2 (by decide) (by decide) (by decide)]; exact t2, by rw [kup_n (by decide), rf.1 3 (by decide) (by decide) (by decide)]; exact t3, by rw [kup_eq]; exact (rk q).1, by rw [kup_n (by decide)]; exact (rk q).2.1⟩
      · have e4 : q4 T n N = ((q3 T n N).1, (q3 T n N).2.1, -5) := by unfold q4; rw [if_neg d]
        refine jn_i (fun J => J y) (last y y0 (by rw [e4]; exact y5) (fun q => ?_) yf) (fun J hJ => w_f rg0 hJ)
        rw [e4] at q ⊢
        obtain ⟨t1, t2, t3, t4⟩ := yk q
        exact ⟨t1, t2, t3, y4, t4⟩
    -- the lower one
    have step3 : ∀ y : Hp, y 85 0 = pS T n → y 85 5 = (q2 T n N).1 → ((q2 T n N).1 < 0 → y 85 1 = (q1 T n N).2.2 ∧ y 85 2 = (q2 T n N).2.2 ∧ y 85 6 = (q2 T n N).2.1) → y 85 3 = -5 → y 85 4 = -5 → (∀ c, c ≠ 85 → y c = z c) → cal_X4_tellsLow (y 85 0) y (fun v15 => jn (fun J16 : Hp → Prop => rg v15 ∧ if v15 = 0 then (J16 y) else (rg (y 85 0) ∧ if (y 85 0) = 7 then (cal_X4_takeNumber 85 81 0 99 y (fun v31 z30 => hp1 (kup z30 85 3 v31) (fun z32 => J16 z32))) else (cal_X4_takeNumber 85 81 0 3000 y (fun v28 z27 => hp1 (kup z27 85 3 v28) (fun z29 => J16 z29))))) (fun z17 => cal_X4_tellsHigh (z17 85 0) z17 (fun v18 => jn (fun J19 : Hp → Prop => rg v18 ∧ if v18 = 0 then (J19 z17) else (cal_X4_takeNumber 85 81 (z17 85 3) 3000 z17 (fun v25 z24 => hp1 (kup z24 85 4 v25) (fun z26 => J19 z26)))) (fun z20 => jn (fun J21 : Hp → Prop => rg (z20 85 5) ∧ if 0 ≤ (z20 85 5) then (J21 z20) else (rg (z20 85 6) ∧ rg (z20 81 1) ∧ if (z20 81 1) ≤ (z20 85 6) then (J21 z20) else (hp1 (kup z20 85 5 (z20 85 6)) (fun z23 => J21 z23)))) (fun z22 => rg (z22 85 5) ∧ if 0 ≤ (z22 85 5) then (K 0 z22) else (K 1 z22)))))) := fun y y0 y5 yk y3 y4 yf => by
      rw [y0]
      refine w_X4_tellsLow ⟨by omega, by omega⟩ (fun d => ?_) (fun d => ?_)
      · refine jn_i (fun J => ∀ y' : Hp, y' 85 0 = pS T n → y' 85 5 = (q3 T n N).1 → ((q3 T n N).1 < 0 → y' 85 1 = (q1 T n N).2.2 ∧ y' 85 2 = (q2 T n N).2.2 ∧ y' 85 3 = (q3 T n N).2.2 ∧ y' 85 6 = (q3 T n N).2.1) → y' 85 4 = -5 → rg (y' 85 3) → (∀ c, c ≠ 85 → y' c = z c) → J y') step4 (fun J hJ => w_t rg1 ?_)
        have fin : ∀ (hi : Int), q3 T n N = nm T n 0 hi (-1) (q2 T n N).1 (q2 T n N).2.1 → rg hi → cal_X4_takeNumber 85 81 0 hi y (fun v31 z30 => hp1 (kup z30 85 3 v31) (fun z32 => J z32)) := fun hi e3 rhi => by
          refine w_takeNumberR (n := n) (p := (q2 T n N).2.1) (T := T) (f := (q2 T n N).1) (tp y yf) o2 y5 (fun q => (yk q).2.2) o2p rg0 rhi (fun v z' r5 rk rr rf => hp_i ?_)
          rw [← e3] at r5 rk
          refine hJ _ ?_ ?_ (fun q => ?_) ?_ ?_ (fun c hc => by funext i; rw [kup_c hc, rf.2 c hc, yf c hc])
          · rw [kup_n (by decide), rf.1 0 (by decide) (by decide) (by decide)]; exact y0
          · rw [kup_n (by decide)]; exact r5
          · obtain ⟨t1, t2, _⟩ := yk (o3k q).1
            exact ⟨by rw [kup_n (by decide), rf.1 1 (by decide) (by decide) (by decide)]; exact t1, by rw [kup_n (by decide), rf.1 2 (by decide) (by decide) (by decide)]; exact t2, by rw [kup_eq]; exact (rk q).1, by rw [kup_n (by decide)]; exact (rk q).2.1⟩
          · rw [kup_n (by decide), rf.1 4 (by decide) (by decide) (by decide)]; exact y4
          · rw [kup_eq]; exact rr
        refine w_if ⟨by omega, by omega⟩ (fun e7 => fin 99 ?_ ⟨by decide, by decide⟩) (fun e7 => fin 3000 ?_ ⟨by decide, by decide⟩)
        · unfold q3; rw [if_neg (by omega), if_pos e7]
        · unfold q3; rw [if_pos (by omega)]
      · have e3 : q3 T n N = ((q2 T n N).1, (q2 T n N).2.1, -5) := by unfold q3; rw [if_neg (by omega), if_neg (by omega)]
        refine jn_i (fun J => J y) (step4 y y0 (by rw [e3]; exact y5) (fun q => ?_) y4 (by rw [y3]; constructor <;> decide) yf) (fun J hJ => w_f rg0 hJ)
        rw [e3] at q ⊢
        obtain ⟨t1, t2, t3⟩ := yk q
        exact ⟨t1, t2, y3, t3⟩
    -- the other person
    rw [w0]
    refine w_X4_tellsTwo ⟨by omega, by omega⟩ (fun d => ?_) (fun d => ?_)
    · have e2 : q2 T n N = nm T n 0 ((N : Int) - 1) (q1 T n N).2.2 (q1 T n N).1 (q1 T n N).2.1 := by unfold q2; rw [if_pos (by omega)]
      refine jn_i (fun J => ∀ y : Hp, y 85 0 = pS T n → y 85 5 = (q2 T n N).1 → ((q2 T n N).1 < 0 → y 85 1 = (q1 T n N).2.2 ∧ y 85 2 = (q2 T n N).2.2 ∧ y 85 6 = (q2 T n N).2.1) → y 85 3 = -5 → y 85 4 = -5 → (∀ c, c ≠ 85 → y c = z c) → J y) step3 (fun J hJ => w_t rg1 ?_)
      refine w_takeNumber (n := n) (p := (q1 T n N).2.1) (T := T) (f := (q1 T n N).1) (tp _ wf) o1 w5 (fun q => (wk q).2) o1p rg0 ⟨by omega, by omega⟩ (fun v2 z' r5 rk rf => hp_i ?_)
      have u0 : kup z' 85 2 v2 85 0 = pS T n := by rw [kup_n (by decide), rf.1 0 (by decide) (by decide) (by decide)]; exact w0
      have u1 : kup z' 85 2 v2 85 1 = z11 85 1 := by rw [kup_n (by decide), rf.1 1 (by decide) (by decide) (by decide)]
      have u2 : kup z' 85 2 v2 85 2 = v2 := kup_eq
      have u3 : kup z' 85 2 v2 85 3 = -5 := by rw [kup_n (by decide), rf.1 3 (by decide) (by decide) (by decide)]; exact w3
      have u4 : kup z' 85 2 v2 85 4 = -5 := by rw [kup_n (by decide), rf.1 4 (by decide) (by decide) (by decide)]; exact w4
      have u5 : kup z' 85 2 v2 85 5 = (nm T n 0 ((N : Int) - 1) (-1) (q1 T n N).1 (q1 T n N).2.1).1 := by rw [kup_n (by decide)]; exact r5
      have u6 : kup z' 85 2 v2 85 6 = z' 85 6 := kup_n (by decide)
      have u7 : kup z' 85 2 v2 85 7 = z' 85 7 := kup_n (by decide)
      have uf : ∀ c, c ≠ 85 → kup z' 85 2 v2 c = z c := fun c hc => by funext i; rw [kup_c hc, rf.2 c hc, wf c hc]
      generalize kup z' 85 2 v2 = zz at *
      obtain ⟨ok1, ok2, ok3, ok4, ok5⟩ := nm_ok (T := T) (n := n) (p := (q1 T n N).2.1) (lo := 0) (hi := (N : Int) - 1) (no := -1) (f := (q1 T n N).1) o1 o1p n60
      rw [u5]
      refine w_if (fo_rg ok1) (fun e => ?_) (fun e => ?_)
      · -- a fault: the same with the other told
        have e1 : (q2 T n N).1 = (nm T n 0 ((N : Int) - 1) (-1) (q1 T n N).1 (q1 T n N).2.1).1 := by
          rw [e2]
          by_cases c : 0 ≤ (q1 T n N).1
          · rw [nm_f c, nm_f c]
          · have := (nm_no (T := T) (p := (q1 T n N).2.1) (lo := 0) (hi := (N : Int) - 1) (f := (q1 T n N).1) n60 (o1k (by omega)).2.1).2
            rw [this, if_neg (fun q => by omega)]
        exact hJ zz u0 (by rw [e1]; exact u5) (fun q => by omega) u3 u4 uf
      · have en : (nm T n 0 ((N : Int) - 1) (-1) (q1 T n N).1 (q1 T n N).2.1).1 < 0 := by omega
        obtain ⟨b1, b2, b3, b4⟩ := ok5 en
        obtain ⟨rk1, rk2, rk3⟩ := rk en
        have a0 := (o1k b1).2.1
        have nn := nm_no (T := T) (p := (q1 T n N).2.1) (lo := 0) (hi := (N : Int) - 1) (f := (q1 T n N).1) n60 a0
        rw [← e2] at nn
        have v1 : zz 85 1 = (q1 T n N).2.2 := by rw [u1]; exact (wk b1).1
        rw [u2, v1]
        refine w_if2 ⟨by omega, by omega⟩ ⟨by omega, by omega⟩ (fun es => hp_i ?_) (fun es => ?_)
        · have e5 : (q2 T n N).1 = (((q1 T n N).2.1 + 1 : Nat) : Int) := by rw [nn.2, if_pos ⟨en, by rw [← rk1]; exact es⟩]
          refine hJ _ ?_ ?_ (fun q => by omega) ?_ ?_ (fun c hc => by funext i; rw [kup_c hc, uf c hc])
          · rw [kup_n (by decide)]; exact u0
          · rw [kup_eq, u7, rk3, e5]
          · rw [kup_n (by decide)]; exact u3
          · rw [kup_n (by decide)]; exact u4
        · have e5 : (q2 T n N).1 = (nm T n 0 ((N : Int) - 1) (-1) (q1 T n N).1 (q1 T n N).2.1).1 := by rw [nn.2, if_neg (fun q => es (by rw [rk1]; exact q.2))]
          refine hJ zz u0 (by rw [e5]; exact u5) (fun q => ⟨v1, ?_, ?_⟩) u3 u4 uf
          · rw [u2, rk1, nn.1]
          · rw [u6, rk2, nn.1]
    · have e2 : q2 T n N = ((q1 T n N).1, (q1 T n N).2.1, -5) := by unfold q2; rw [if_neg (by omega)]
      refine jn_i (fun J => J z11) (step3 z11 w0 (by rw [e2]; exact w5) (fun q => ?_) w3 w4 wf) (fun J hJ => w_f rg0 hJ)
      rw [e2] at q ⊢
      exact ⟨(wk q).1, w2, (wk q).2⟩
  have e0 : ((0 : Nat) : Int) = 0 := rfl
  refine w_at (t := 81) (n := n) (a := 0) rg0 (tp z4 gf).1 (by rw [klT81]; exact n60) (by rw [klT81]; omega) (fun i hi hin => ?_) (fun q => ?_)
  · have : i = 0 := by omega
    subst this
    rw [show 81 + 1 = 82 from rfl, ((tp z4 gf).2.2 0 hin).1]
    rw [if_neg (by omega)] at go
    exact go
  · rw [if_pos (by omega)] at go
    exact go
