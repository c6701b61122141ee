/-! the reference's reading -/
def RM5 (z z' : Hp) : Prop := (∀ j, j ≠ 6 → j ≠ 8 → j ≠ 9 → z' 0 j = z 0 j) ∧ ∀ c, c ≠ 0 → c ≠ 5 → z' c = z c
def RMn (z z' : Hp) : Prop := (∀ j, j ≠ 8 → j ≠ 9 → z' 0 j = z 0 j) ∧ ∀ c, c ≠ 0 → c ≠ 5 → z' c = z c
theorem RMn.tp {z z' : Hp} {n : Nat} {T : Nat → Int} (f : RMn z z') (h : TpM z n T) : TpM z' n T := by
  unfold TpM
  rw [f.1 6 (by decide) (by decide), f.2 3 (by decide) (by decide)]
  exact h
set_option maxHeartbeats 2000000 in
theorem w_X10_reads {n N : Nat} {T : Nat → Int} {z : Hp} {K : Int → Hp → Prop} (h : TpM z n T) (hN : N ≤ 30) (h0 : z 1 0 = N) (k : ∀ (v : Int) (z' : Hp), z' 0 9 = pF T n N → ((v = 1 ∧ pF T n N < 0) ∨ (v = 0 ∧ 0 ≤ pF T n N)) → z' 5 0 = pS T n → z' 5 1 = (q1 T n N).2.2 → z' 5 2 = (q2 T n N).2.2 → z' 5 3 = (q3 T n N).2.2 → z' 5 4 = (q4 T n N).2.2 → z' 0 6 = 0 → RM5 z z' → K v z') : cal_X10_reads z K := by
  have n60 := h.2.1
  obtain ⟨o1, o1p, o1v, o1k⟩ := q1_ok (T := T) (n := n) (N := N) n60
  obtain ⟨o2, o2p, o2v, o2k⟩ := q2_ok (T := T) (n := n) (N := N) n60
  obtain ⟨o3, o3p, o3v, o3k⟩ := q3_ok (T := T) (n := n) (N := N) n60
  obtain ⟨o4, o4p, o4v, o4k⟩ := q4_ok (T := T) (n := n) (N := N) n60
  have sb := pS_bd T n
  have hpf := pF_fo (T := T) (n := n) (N := N) n60
  unfold cal_X10_reads
  refine hp_i (hp_i ?_)
  have g8 : kup (kup z 0 8 1) 0 9 (-1) 0 8 = ((1 : Nat) : Int) := by rw [kup_n (by decide), kup_eq]; rfl
  have g9 : kup (kup z 0 8 1) 0 9 (-1) 0 9 = -1 := kup_eq
  have gf : RMn z (kup (kup z 0 8 1) 0 9 (-1)) := ⟨fun j a b => by rw [kup_n (fun q => b q.2), kup_n (fun q => a q.2)], fun c a _ => by funext i; rw [kup_c a, kup_c a]⟩
  generalize kup (kup z 0 8 1) 0 9 (-1) = z2 at *
  have t2 := gf.tp h
  -- the last step
  have last : ∀ y : Hp, y 0 9 = (q4 T n N).1 → y 0 8 = (q4 T n N).2.1 → y 5 0 = pS T n → y 5 1 = (q1 T n N).2.2 → y 5 2 = (q2 T n N).2.2 → y 5 3 = (q3 T n N).2.2 → y 5 4 = (q4 T n N).2.2 → RMn z y → jn (fun J20 : Hp → Prop => rg (y 0 8) ∧ rg (y 0 6) ∧ if (y 0 6) ≤ (y 0 8) then (J20 y) else (cal_X10_fails (y 0 8) y (fun z23 => J20 z23))) (fun z21 => hp1 (kup z21 0 6 0) (fun z22 => rg (z22 0 9) ∧ if 0 ≤ (z22 0 9) then (K 0 z22) else (K 1 z22))) := fun y y9 y8 y50 y51 y52 y53 y54 yf => by
    have y6 : y 0 6 = n := (yf.tp h).1
    refine jn_i (fun J => ∀ y' : Hp, y' 0 9 = pF T n N → (∀ j, j ≠ 9 → y' 0 j = y 0 j) → (∀ c, c ≠ 0 → y' c = y c) → J y') (fun y' a b c => hp_i ?_) (fun J hJ => ?_)
    · have v9 : kup y' 0 6 0 0 9 = pF T n N := by rw [kup_n (by decide)]; exact a
      rw [v9]
      have fin : ∀ v : Int, ((v = 1 ∧ pF T n N < 0) ∨ (v = 0 ∧ 0 ≤ pF T n N)) → K v (kup y' 0 6 0) := fun v hv => k v _ v9 hv (by rw [kup_c (by decide), c 5 (by decide)]; exact y50) (by rw [kup_c (by decide), c 5 (by decide)]; exact y51) (by rw [kup_c (by decide), c 5 (by decide)]; exact y52) (by rw [kup_c (by decide), c 5 (by decide)]; exact y53) (by rw [kup_c (by decide), c 5 (by decide)]; exact y54) kup_eq ⟨fun j j6 j8 j9 => by rw [kup_n (fun q => j6 q.2), b j j9, yf.1 j j8 j9], fun d d0 d5 => by funext i; rw [kup_c d0, c d d0, yf.2 d d0 d5]⟩
      exact w_if (fo_rg hpf) (fun e => fin 0 (Or.inr ⟨rfl, e⟩)) (fun e => fin 1 (Or.inl ⟨rfl, by omega⟩))
    · rw [y8, y6]
      refine w_if2 ⟨by omega, by omega⟩ ⟨by omega, by omega⟩ (fun d => hJ y ?_ (fun _ _ => rfl) (fun _ _ => rfl)) (fun d => w_fails o4 y9 (fun y' a b c => hJ y' ?_ b c))
      · rw [y9]
        unfold pF
        by_cases c : 0 ≤ (q4 T n N).1
        · rw [if_pos c]
        · rw [if_neg c, if_neg (by omega)]
          unfold fo at o4
          omega
      · rw [a]
        unfold pF
        by_cases c : 0 ≤ (q4 T n N).1
        · rw [if_pos c, if_pos c]
        · rw [if_neg c, if_neg c, if_pos (by omega)]
  -- a number into a place of what is read
  have put : ∀ (w : Nat) (v : Int) (y : Hp) (c : Nat), c ≠ w → kup y 5 w v 5 c = y 5 c := fun w v y c hc => kup_n (fun q => hc q.2)
  have step4 : ∀ y : Hp, y 0 9 = (q3 T n N).1 → y 0 8 = (q3 T n N).2.1 → y 5 0 = pS T n → y 5 1 = (q1 T n N).2.2 → y 5 2 = (q2 T n N).2.2 → y 5 3 = (q3 T n N).2.2 → RMn z y → cal_X10_isOfYears (pS T n) y (fun v17 => jn (fun J18 : Hp → Prop => rg v17 ∧ if v17 = 0 then (hp1 (kup y 5 4 (-5)) (fun z24 => J18 z24)) else (cal_X10_number (y 5 3) 3000 (-1) y (fun v26 z25 => hp1 (kup z25 5 4 v26) (fun z27 => J18 z27)))) (fun z19 => jn (fun J20 : Hp → Prop => rg (z19 0 8) ∧ rg (z19 0 6) ∧ if (z19 0 6) ≤ (z19 0 8) then (J20 z19) else (cal_X10_fails (z19 0 8) z19 (fun z23 => J20 z23))) (fun z21 => hp1 (kup z21 0 6 0) (fun z22 => rg (z22 0 9) ∧ if 0 ≤ (z22 0 9) then (K 0 z22) else (K 1 z22))))) := fun y y9 y8 y50 y51 y52 y53 yf => by
    refine w_X10_isOfYears ⟨by omega, by omega⟩ (fun d => ?_) (fun d => ?_)
    · have e4 : q4 T n N = nm T n (q3 T n N).2.2 3000 (-1) (q3 T n N).1 (q3 T n N).2.1 := by unfold q4; rw [if_pos d]
      refine jn_i (fun J => ∀ y' : Hp, y' 0 9 = (q4 T n N).1 → y' 0 8 = (q4 T n N).2.1 → y' 5 0 = pS T n → y' 5 1 = (q1 T n N).2.2 → y' 5 2 = (q2 T n N).2.2 → y' 5 3 = (q3 T n N).2.2 → y' 5 4 = (q4 T n N).2.2 → RMn z y' → J y') last (fun J hJ => w_t rg1 ?_)
      rw [y53]
      refine w_number (n := n) (p := (q3 T n N).2.1) (T := T) (f := (q3 T n N).1) (yf.tp h) o3 y9 y8 o3p ⟨by omega, by omega⟩ ⟨by decide, by decide⟩ ⟨by decide, by decide⟩ (fun z' r9 r8 rf => hp_i ?_)
      rw [← e4] at r9 r8 ⊢
      refine hJ _ (by rw [kup_c (by decide)]; exact r9) (by rw [kup_c (by decide)]; exact r8) ?_ ?_ ?_ ?_ kup_eq ⟨fun j j8 j9 => by rw [kup_c (by decide), rf.1 j j8 j9, yf.1 j j8 j9], fun c c0 c5 => by funext i; rw [kup_c c5, rf.2 c c0, yf.2 c c0 c5]⟩
      · rw [put _ _ _ _ (by decide), rf.2 5 (by decide)]; exact y50
      · rw [put _ _ _ _ (by decide), rf.2 5 (by decide)]; exact y51
      · rw [put _ _ _ _ (by decide), rf.2 5 (by decide)]; exact y52
      · rw [put _ _ _ _ (by decide), rf.2 5 (by decide)]; exact y53
    · have e4 : q4 T n N = ((q3 T n N).1, (q3 T n N).2.1, -5) := by unfold q4; rw [if_neg d]
      refine jn_i (fun J => J (kup y 5 4 (-5))) ?_ (fun J hJ => w_f rg0 (hp_i hJ))
      refine last _ (by rw [kup_c (by decide), e4]; exact y9) (by rw [kup_c (by decide), e4]; exact y8) ?_ ?_ ?_ ?_ (by rw [kup_eq, e4]) ⟨fun j j8 j9 => by rw [kup_c (by decide), yf.1 j j8 j9], fun c c0 c5 => by funext i; rw [kup_c c5, yf.2 c c0 c5]⟩
      · rw [put _ _ _ _ (by decide)]; exact y50
      · rw [put _ _ _ _ (by decide)]; exact y51
      · rw [put _ _ _ _ (by decide)]; exact y52
      · rw [put _ _ _ _ (by decide)]; exact y53
  have step3 : ∀ y : Hp, y 0 9 = (q2 T n N).1 → y 0 8 = (q2 T n N).2.1 → y 5 0 = pS T n → y 5 1 = (q1 T n N).2.2 → y 5 2 = (q2 T n N).2.2 → RMn z y → cal_X10_isOfYears (pS T n) y (fun v14 => jn (fun J15 : Hp → Prop => rg v14 ∧ if v14 = 0 then (rg (pS T n) ∧ if (pS T n) = 6 then (cal_X10_number 0 3000 (-1) y (fun v36 z35 => hp1 (kup z35 5 3 v36) (fun z37 => J15 z37))) else (rg (pS T n) ∧ if (pS T n) = 7 then (cal_X10_number 0 99 (-1) y (fun v33 z32 => hp1 (kup z32 5 3 v33) (fun z34 => J15 z34))) else (hp1 (kup y 5 3 (-5)) (fun z31 => J15 z31)))) else (cal_X10_number 0 3000 (-1) y (fun v29 z28 => hp1 (kup z28 5 3 v29) (fun z30 => J15 z30)))) (fun z16 => cal_X10_isOfYears (pS T n) z16 (fun v17 => jn (fun J18 : Hp → Prop => rg v17 ∧ if v17 = 0 then (hp1 (kup z16 5 4 (-5)) (fun z24 => J18 z24)) else (cal_X10_number (z16 5 3) 3000 (-1) z16 (fun v26 z25 => hp1 (kup z25 5 4 v26) (fun z27 => J18 z27)))) (fun z19 => jn (fun J20 : Hp → Prop => rg (z19 0 8) ∧ rg (z19 0 6) ∧ if (z19 0 6) ≤ (z19 0 8) then (J20 z19) else (cal_X10_fails (z19 0 8) z19 (fun z23 => J20 z23))) (fun z21 => hp1 (kup z21 0 6 0) (fun z22 => rg (z22 0 9) ∧ if 0 ≤ (z22 0 9) then (K 0 z22) else (K 1 z22))))))) := fun y y9 y8 y50 y51 y52 yf => by
    have rp : rg (pS T n) := ⟨by omega, by omega⟩
    have fin : ∀ (hi : Int) (J : Hp → Prop), (∀ y' : Hp, y' 0 9 = (q3 T n N).1 → y' 0 8 = (q3 T n N).2.1 → y' 5 0 = pS T n → y' 5 1 = (q1 T n N).2.2 → y' 5 2 = (q2 T n N).2.2 → y' 5 3 = (q3 T n N).2.2 → RMn z y' → J y') → q3 T n N = nm T n 0 hi (-1) (q2 T n N).1 (q2 T n N).2.1 → rg hi → cal_X10_number 0 hi (-1) y (fun v36 z35 => hp1 (kup z35 5 3 v36) (fun z37 => J z37)) := fun hi J hJ e3 rhi => by
      refine w_number (n := n) (p := (q2 T n N).2.1) (T := T) (f := (q2 T n N).1) (yf.tp h) o2 y9 y8 o2p rg0 rhi ⟨by decide, by decide⟩ (fun z' r9 r8 rf => hp_i ?_)
      rw [← e3] at r9 r8 ⊢
      refine hJ _ (by rw [kup_c (by decide)]; exact r9) (by rw [kup_c (by decide)]; exact r8) ?_ ?_ ?_ kup_eq ⟨fun j j8 j9 => by rw [kup_c (by decide), rf.1 j j8 j9, yf.1 j j8 j9], fun c c0 c5 => by funext i; rw [kup_c c5, rf.2 c c0, yf.2 c c0 c5]⟩
      · rw [put _ _ _ _ (by decide), rf.2 5 (by decide)]; exact y50
      · rw [put _ _ _ _ (by decide), rf.2 5 (by decide)]; exact y51
      · rw [put _ _ _ _ (by decide), rf.2 5 (by decide)]; exact y52
    refine w_X10_isOfYears rp (fun d => ?_) (fun d => ?_)
    · exact jn_i (fun J => ∀ y' : Hp, y' 0 9 = (q3 T n N).1 → y' 0 8 = (q3 T n N).2.1 → y' 5 0 = pS T n → y' 5 1 = (q1 T n N).2.2 → y' 5 2 = (q2 T n N).2.2 → y' 5 3 = (q3 T n N).2.2 → RMn z y' → J y') step4 (fun J hJ => w_t rg1 (fin 3000 J hJ (by unfold q3; rw [if_pos (by omega)]) ⟨by decide, by decide⟩))
    · refine jn_i (fun J => ∀ y' : Hp, y' 0 9 = (q3 T n N).1 → y' 0 8 = (q3 T n N).2.1 → y' 5 0 = pS T n → y' 5 1 = (q1 T n N).2.2 → y' 5 2 = (q2 T n N).2.2 → y' 5 3 = (q3 T n N).2.2 → RMn z y' → J y') step4 (fun J hJ => w_f rg0 (w_if rp (fun e6 => fin 3000 J hJ (by unfold q3; rw [if_pos (by omega)]) ⟨by decide, by decide⟩) (fun e6 => w_if rp (fun e7 => fin 99 J hJ (by unfold q3; rw [if_neg (by omega), if_pos e7]) ⟨by decide, by decide⟩) (fun e7 => hp_i ?_))))
      have e3 : q3 T n N = ((q2 T n N).1, (q2 T n N).2.1, -5) := by unfold q3; rw [if_neg (by omega), if_neg e7]
      refine hJ _ (by rw [kup_c (by decide), e3]; exact y9) (by rw [kup_c (by decide), e3]; exact y8) ?_ ?_ ?_ (by rw [kup_eq, e3]) ⟨fun j j8 j9 => by rw [kup_c (by decide), yf.1 j j8 j9], fun c c0 c5 => by funext i; rw [kup_c c5, yf.2 c c0 c5]⟩
      · rw [put _ _ _ _ (by decide)]; exact y50
      · rw [put _ _ _ _ (by decide)]; exact y51
      · rw [put _ _ _ _ (by decide)]; exact y52
  have step1 : ∀ y : Hp, y 0 9 = (if pS T n < 0 then (0 : Int) else -1) → y 0 8 = ((1 : Nat) : Int) → RMn z y → hp1 (kup y 5 0 (pS T n)) (fun z7 => cal_X10_number 0 ((z7 1 0) - 1) (-1) z7 (fun v9 z8 => hp1 (kup z8 5 1 v9) (fun z10 => cal_X10_isOfTwo (pS T n) z10 (fun v11 => jn (fun J12 : Hp → Prop => rg v11 ∧ if v11 = 0 then (hp1 (kup z10 5 2 (-5)) (fun z38 => J12 z38)) else (cal_X10_number 0 ((z10 1 0) - 1) (z10 5 1) z10 (fun v40 z39 => hp1 (kup z39 5 2 v40) (fun z41 => J12 z41)))) (fun z13 => cal_X10_isOfYears (pS T n) z13 (fun v14 => jn (fun J15 : Hp → Prop => rg v14 ∧ if v14 = 0 then (rg (pS T n) ∧ if (pS T n) = 6 then (cal_X10_number 0 3000 (-1) z13 (fun v36 z35 => hp1 (kup z35 5 3 v36) (fun z37 => J15 z37))) else (rg (pS T n) ∧ if (pS T n) = 7 then (cal_X10_number 0 99 (-1) z13 (fun v33 z32 => hp1 (kup z32 5 3 v33) (fun z34 => J15 z34))) else (hp1 (kup z13 5 3 (-5)) (fun z31 => J15 z31)))) else (cal_X10_number 0 3000 (-1) z13 (fun v29 z28 => hp1 (kup z28 5 3 v29) (fun z30 => J15 z30)))) (fun z16 => cal_X10_isOfYears (pS T n) z16 (fun v17 => jn (fun J18 : Hp → Prop => rg v17 ∧ if v17 = 0 then (hp1 (kup z16 5 4 (-5)) (fun z24 => J18 z24)) else (cal_X10_number (z16 5 3) 3000 (-1) z16 (fun v26 z25 => hp1 (kup z25 5 4 v26) (fun z27 => J18 z27)))) (fun z19 => jn (fun J20 : Hp → Prop => rg (z19 0 8) ∧ rg (z19 0 6) ∧ if (z19 0 6) ≤ (z19 0 8) then (J20 z19) else (cal_X10_fails (z19 0 8) z19 (fun z23 => J20 z23))) (fun z21 => hp1 (kup z21 0 6 0) (fun z22 => rg (z22 0 9) ∧ if 0 ≤ (z22 0 9) then (K 0 z22) else (K 1 z22)))))))))))) := fun y y9 y8 yf => by
    refine hp_i ?_
    have w9 : kup y 5 0 (pS T n) 0 9 = (if pS T n < 0 then (0 : Int) else -1) := by rw [kup_c (by decide)]; exact y9
    have w8 : kup y 5 0 (pS T n) 0 8 = ((1 : Nat) : Int) := by rw [kup_c (by decide)]; exact y8
    have w5 : kup y 5 0 (pS T n) 5 0 = pS T n := kup_eq
    have wf : RMn z (kup y 5 0 (pS T n)) := ⟨fun j j8 j9 => by rw [kup_c (by decide), yf.1 j j8 j9], fun c c0 c5 => by funext i; rw [kup_c c5, yf.2 c c0 c5]⟩
    generalize kup y 5 0 (pS T n) = z7 at *
    have r10 : ∀ y' : Hp, RMn z y' → y' 1 0 = N := fun y' f => by rw [f.2 1 (by decide) (by decide)]; exact h0
    rw [r10 z7 wf]
    have e1 : nm T n 0 ((N : Int) - 1) (-1) (if pS T n < 0 then 0 else -1) 1 = q1 T n N := rfl
    refine w_number (n := n) (p := 1) (T := T) (f := if pS T n < 0 then 0 else -1) (wf.tp h) (by split <;> omega) w9 w8 (by omega) rg0 ⟨by omega, by omega⟩ ⟨by decide, by decide⟩ (fun z8 r9 r8 rf => hp_i ?_)
    rw [e1] at r9 r8 ⊢
    have x9 : kup z8 5 1 (q1 T n N).2.2 0 9 = (q1 T n N).1 := by rw [kup_c (by decide)]; exact r9
    have x8 : kup z8 5 1 (q1 T n N).2.2 0 8 = (q1 T n N).2.1 := by rw [kup_c (by decide)]; exact r8
    have x50 : kup z8 5 1 (q1 T n N).2.2 5 0 = pS T n := by rw [put _ _ _ _ (by decide), rf.2 5 (by decide)]; exact w5
    have x51 : kup z8 5 1 (q1 T n N).2.2 5 1 = (q1 T n N).2.2 := kup_eq
    have xf : RMn z (kup z8 5 1 (q1 T n N).2.2) := ⟨fun j j8 j9 => by rw [kup_c (by decide), rf.1 j j8 j9, wf.1 j j8 j9], fun c c0 c5 => by funext i; rw [kup_c c5, rf.2 c c0, wf.2 c c0 c5]⟩
    generalize kup z8 5 1 (q1 T n N).2.2 = z10 at *
    refine w_X10_isOfTwo ⟨by omega, by omega⟩ (fun d => ?_) (fun d => ?_)
    · have e2 : q2 T n N = nm T n 0 ((N : Int) - 1) (q1 T n N).2.2 (q1 T n N).1 (q1 T n N).2.1 := by unfold q2; rw [if_pos d]
      refine jn_i (fun J => ∀ y' : Hp, y' 0 9 = (q2 T n N).1 → y' 0 8 = (q2 T n N).2.1 → y' 5 0 = pS T n → y' 5 1 = (q1 T n N).2.2 → y' 5 2 = (q2 T n N).2.2 → RMn z y' → J y') step3 (fun J hJ => w_t rg1 ?_)
      rw [r10 z10 xf, x51]
      refine w_number (n := n) (p := (q1 T n N).2.1) (T := T) (f := (q1 T n N).1) (xf.tp h) o1 x9 x8 o1p rg0 ⟨by omega, by omega⟩ ⟨by omega, by omega⟩ (fun z' s9 s8 sf => hp_i ?_)
      rw [← e2] at s9 s8 ⊢
      refine hJ _ (by rw [kup_c (by decide)]; exact s9) (by rw [kup_c (by decide)]; exact s8) ?_ ?_ kup_eq ⟨fun j j8 j9 => by rw [kup_c (by decide), sf.1 j j8 j9, xf.1 j j8 j9], fun c c0 c5 => by funext i; rw [kup_c c5, sf.2 c c0, xf.2 c c0 c5]⟩
      · rw [put _ _ _ _ (by decide), sf.2 5 (by decide)]; exact x50
      · rw [put _ _ _ _ (by decide), sf.2 5 (by decide)]; exact x51
    · have e2 : q2 T n N = ((q1 T n N).1, (q1 T n N).2.1, -5) := by unfold q2; rw [if_neg d]
      refine jn_i (fun J => J (kup z10 5 2 (-5))) ?_ (fun J hJ => w_f rg0 (hp_i hJ))
      refine step3 _ (by rw [kup_c (by decide), e2]; exact x9) (by rw [kup_c (by decide), e2]; exact x8) ?_ ?_ (by rw [kup_eq, e2]) ⟨fun j j8 j9 => by rw [kup_c (by decide), xf.1 j j8 j9], fun c c0 c5 => by funext i; rw [kup_c c5, xf.2 c c0 c5]⟩
      · rw [put _ _ _ _ (by decide)]; exact x50
      · rw [put _ _ _ _ (by decide)]; exact x51
  refine jn_i (fun J => J (pS T n)) ?_ (fun J hJ => ?_)
  rotate_left
  · rw [t2.1]
    refine w_if ⟨by omega, by omega⟩ (fun e => lt_i ?_) (fun e => ?_)
    · have : pS T n = -1 := by unfold pS; rw [if_pos (by omega)]
      rw [this] at hJ; exact hJ
    · have b := t2.2.2 0 (by omega)
      rw [b.1]
      refine w_X10_sortOf ⟨by omega, by omega⟩ (lt_i ?_)
      have : pS T n = sortV (T 0) := by unfold pS; rw [if_neg (by omega)]
      rw [this] at hJ; exact hJ
  · refine jn_i (fun J => ∀ y : Hp, y 0 9 = (if pS T n < 0 then (0 : Int) else -1) → y 0 8 = ((1 : Nat) : Int) → RMn z y → J y) step1 (fun J hJ => w_if ⟨by omega, by omega⟩ (fun e => hJ z2 (by rw [if_neg (by omega)]; exact g9) g8 gf) (fun e => w_fails (f := -1) (Or.inl rfl) g9 (fun y a b c => hJ y ?_ ?_ ⟨fun j j8 j9 => by rw [b j j9, gf.1 j j8 j9], fun d d0 d5 => by rw [c d d0, gf.2 d d0 d5]⟩)))
    · rw [a, if_neg (by decide), if_pos (by omega)]
    · rw [b 8 (by decide)]; exact g8
