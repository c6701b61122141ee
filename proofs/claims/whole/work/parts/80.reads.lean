/-! statements read from the tape -/
def sortV (x : Int) : Int := if x = 98 then 0 else if x = 100 then 1 else if x = 109 then 2 else if x = 102 then 3 else if x = 119 then 4 else if x = 115 then 5 else if x = 108 then 6 else if x = 111 then 7 else -1
theorem sortV_bd (x : Int) : -1 ≤ sortV x ∧ sortV x ≤ 7 := by
  unfold sortV
  (repeat' split) <;> omega
theorem sortV_let : ∀ j, j < 8 → sortV (kletL.getD j 0) = j ∧ 98 ≤ kletL.getD j 0 ∧ kletL.getD j 0 ≤ 119 := by decide
theorem w_X4_sortOf {a : Int} {z : Hp} {K : Int → Prop} (ha : rg a) (k : K (sortV a)) : cal_X4_sortOf a z K := by
  show LQ1 _ 0
  refine LQ1_for 8 (fun j => ∀ i, i < j → kletL.getD i 0 ≠ a) 0 rfl (by omega) (fun i hi => absurd hi (by omega)) (fun X j hj hI hX => ?_) (fun X hI => ?_)
  · obtain ⟨s1, s2, s3⟩ := sortV_let j hj
    refine w_if ⟨by omega, by omega⟩ (fun e => absurd e (by omega)) (fun _ => ⟨⟨by omega, by omega⟩, ?_⟩)
    rw [Int.toNat_natCast]
    refine w_if2 ⟨by omega, by omega⟩ ha (fun e => ?_) (fun e => lt_i (hX (fun i hi => ?_)))
    · rw [← e, s1] at k; exact k
    · by_cases g : i = j
      · subst g; exact e
      · exact hI i (by omega)
  · have : sortV a = -1 := by
      have h0 : (98 : Int) ≠ a := hI 0 (by decide)
      have h1 : (100 : Int) ≠ a := hI 1 (by decide)
      have h2 : (109 : Int) ≠ a := hI 2 (by decide)
      have h3 : (102 : Int) ≠ a := hI 3 (by decide)
      have h4 : (119 : Int) ≠ a := hI 4 (by decide)
      have h5 : (115 : Int) ≠ a := hI 5 (by decide)
      have h6 : (108 : Int) ≠ a := hI 6 (by decide)
      have h7 : (111 : Int) ≠ a := hI 7 (by decide)
      unfold sortV
      rw [if_neg (by omega), if_neg (by omega), if_neg (by omega), if_neg (by omega), if_neg (by omega), if_neg (by omega), if_neg (by omega), if_neg (by omega)]
    rw [this] at k
    exact w_if ⟨by omega, by omega⟩ (fun _ => k) (fun e => absurd e (by omega))
set_option maxHeartbeats 1000000 in
theorem w_X10_sortOf {a : Int} {z : Hp} {K : Int → Prop} (ha : rg a) (k : K (sortV a)) : cal_X10_sortOf a z K := by
  have h : ∀ v, v = sortV a → K v := fun v e => by rw [e]; exact k
  unfold cal_X10_sortOf
  refine ⟨ha, ?_⟩
  have leaf : ∀ x : Int, a = x → (x ≠ 98 ∧ x ≠ 100 ∧ x ≠ 109 ∧ x ≠ 102 ∧ x ≠ 119 ∧ x ≠ 115 ∧ x ≠ 108 ∧ x ≠ 111) → rg a ∧ (if a = 111 then K 7 else K (-1)) := fun x e n => w_if ha (fun e2 => absurd e2 (by omega)) (fun _ => h _ (by unfold sortV; rw [if_neg (by omega), if_neg (by omega), if_neg (by omega), if_neg (by omega), if_neg (by omega), if_neg (by omega), if_neg (by omega), if_neg (by omega)]))
  refine w_ite (fun e => h _ (by rw [e]; rfl)) (fun n1 => w_ite (fun e => leaf _ e (by decide)) (fun _ => w_ite (fun e => h _ (by rw [e]; rfl)) (fun n2 => w_ite (fun e => leaf _ e (by decide)) (fun _ => w_ite (fun e => h _ (by rw [e]; rfl)) (fun n3 => w_ite (fun e => leaf _ e (by decide)) (fun _ => w_ite (fun e => leaf _ e (by decide)) (fun _ => w_ite (fun e => leaf _ e (by decide)) (fun _ => w_ite (fun e => leaf _ e (by decide)) (fun _ => w_ite (fun e => leaf _ e (by decide)) (fun _ => w_ite (fun e => h _ (by rw [e]; rfl)) (fun n4 => w_ite (fun e => h _ (by rw [e]; rfl)) (fun n5 => w_ite (fun e => leaf _ e (by decide)) (fun _ => w_ite (fun e => w_if ha (fun _ => h _ (by rw [e]; rfl)) (fun r => absurd e r)) (fun n6 => w_ite (fun e => leaf _ e (by decide)) (fun _ => w_ite (fun e => leaf _ e (by decide)) (fun _ => w_ite (fun e => leaf _ e (by decide)) (fun _ => w_ite (fun e => h _ (by rw [e]; rfl)) (fun n7 => w_ite (fun e => leaf _ e (by decide)) (fun _ => w_ite (fun e => leaf _ e (by decide)) (fun _ => w_ite (fun e => leaf _ e (by decide)) (fun _ => w_ite (fun e => h _ (by rw [e]; rfl)) (fun n8 => w_if ha (fun e => absurd e n6) (fun _ => h _ ?_)))))))))))))))))))))))
  unfold sortV
  rw [if_neg (by omega), if_neg (by omega), if_neg (by omega), if_neg (by omega), if_neg (by omega), if_neg (by omega), if_neg (by omega), if_neg (by omega)]
/-- the reading, as numbers -/
def pS (T : Nat → Int) (n : Nat) : Int := if n = 0 then -1 else sortV (T 0)
noncomputable def q1 (T : Nat → Int) (n N : Nat) : Int × Nat × Int := nm T n 0 ((N : Int) - 1) (-1) (if pS T n < 0 then 0 else -1) 1
noncomputable def q2 (T : Nat → Int) (n N : Nat) : Int × Nat × Int := if pS T n ≠ 0 ∧ pS T n ≠ 1 ∧ pS T n ≠ 6 then nm T n 0 ((N : Int) - 1) (q1 T n N).2.2 (q1 T n N).1 (q1 T n N).2.1 else ((q1 T n N).1, (q1 T n N).2.1, -5)
noncomputable def q3 (T : Nat → Int) (n N : Nat) : Int × Nat × Int := if pS T n = 0 ∨ pS T n = 1 ∨ pS T n = 4 ∨ pS T n = 6 then nm T n 0 3000 (-1) (q2 T n N).1 (q2 T n N).2.1 else if pS T n = 7 then nm T n 0 99 (-1) (q2 T n N).1 (q2 T n N).2.1 else ((q2 T n N).1, (q2 T n N).2.1, -5)
noncomputable def q4 (T : Nat → Int) (n N : Nat) : Int × Nat × Int := if pS T n = 0 ∨ pS T n = 1 ∨ pS T n = 4 then nm T n (q3 T n N).2.2 3000 (-1) (q3 T n N).1 (q3 T n N).2.1 else ((q3 T n N).1, (q3 T n N).2.1, -5)
noncomputable def pF (T : Nat → Int) (n N : Nat) : Int := if 0 ≤ (q4 T n N).1 then (q4 T n N).1 else if (q4 T n N).2.1 < n then ((q4 T n N).2.1 : Int) else -1
def fo (f : Int) : Prop := f = -1 ∨ (0 ≤ f ∧ f ≤ 61)
theorem pS_bd (T : Nat → Int) (n : Nat) : -1 ≤ pS T n ∧ pS T n ≤ 7 := by
  unfold pS
  split
  · omega
  · exact sortV_bd _
theorem q1_ok {T : Nat → Int} {n N : Nat} (hn : n ≤ 60) : fo (q1 T n N).1 ∧ (q1 T n N).2.1 ≤ 61 ∧ (-5 ≤ (q1 T n N).2.2 ∧ (q1 T n N).2.2 ≤ 9999) ∧ ((q1 T n N).1 < 0 → 0 ≤ pS T n ∧ 0 ≤ (q1 T n N).2.2 ∧ (q1 T n N).2.2 < N) := by
  have := nm_ok (T := T) (n := n) (p := 1) (lo := 0) (hi := (N : Int) - 1) (no := -1) (f := if pS T n < 0 then 0 else -1) (by split <;> omega) (by omega) hn
  obtain ⟨a1, a2, a3, a4, a5⟩ := this
  refine ⟨a1, a2, ⟨by unfold q1; omega, a4⟩, fun h => ?_⟩
  obtain ⟨b1, b2, b3, b4⟩ := a5 h
  have : ¬ pS T n < 0 := fun c => by rw [if_pos c] at b1; omega
  exact ⟨by omega, b2, by unfold q1; omega⟩
theorem q2_ok {T : Nat → Int} {n N : Nat} (hn : n ≤ 60) : fo (q2 T n N).1 ∧ (q2 T n N).2.1 ≤ 61 ∧ (-5 ≤ (q2 T n N).2.2 ∧ (q2 T n N).2.2 ≤ 9999) ∧ ((q2 T n N).1 < 0 → (q1 T n N).1 < 0 ∧ ((pS T n ≠ 0 ∧ pS T n ≠ 1 ∧ pS T n ≠ 6) → 0 ≤ (q2 T n N).2.2 ∧ (q2 T n N).2.2 < N ∧ (q2 T n N).2.2 ≠ (q1 T n N).2.2) ∧ (¬ (pS T n ≠ 0 ∧ pS T n ≠ 1 ∧ pS T n ≠ 6) → (q2 T n N).2.2 = -5)) := by
  obtain ⟨c1, c2, c3, c4⟩ := q1_ok (T := T) (n := n) (N := N) hn
  unfold q2
  by_cases d : pS T n ≠ 0 ∧ pS T n ≠ 1 ∧ pS T n ≠ 6
  · rw [if_pos d]
    obtain ⟨a1, a2, a3, a4, a5⟩ := nm_ok (T := T) (n := n) (lo := 0) (hi := (N : Int) - 1) (no := (q1 T n N).2.2) c1 c2 hn
    refine ⟨a1, a2, ⟨by omega, a4⟩, fun h => ?_⟩
    obtain ⟨b1, b2, b3, b4⟩ := a5 h
    exact ⟨b1, fun _ => ⟨b2, by omega, b4⟩, fun q => absurd d q⟩
  · rw [if_neg d]
    exact ⟨c1, c2, ⟨by dsimp only; omega, by dsimp only; omega⟩, fun h => ⟨h, fun q => absurd q d, fun _ => rfl⟩⟩
theorem q3_ok {T : Nat → Int} {n N : Nat} (hn : n ≤ 60) : fo (q3 T n N).1 ∧ (q3 T n N).2.1 ≤ 61 ∧ (-5 ≤ (q3 T n N).2.2 ∧ (q3 T n N).2.2 ≤ 9999) ∧ ((q3 T n N).1 < 0 → (q2 T n N).1 < 0 ∧ ((pS T n = 0 ∨ pS T n = 1 ∨ pS T n = 4 ∨ pS T n = 6 ∨ pS T n = 7) → 0 ≤ (q3 T n N).2.2 ∧ (q3 T n N).2.2 ≤ 3000) ∧ (¬ (pS T n = 0 ∨ pS T n = 1 ∨ pS T n = 4 ∨ pS T n = 6 ∨ pS T n = 7) → (q3 T n N).2.2 = -5)) := by
  obtain ⟨c1, c2, c3, c4⟩ := q2_ok (T := T) (n := n) (N := N) hn
  unfold q3
  by_cases d : pS T n = 0 ∨ pS T n = 1 ∨ pS T n = 4 ∨ pS T n = 6
  · rw [if_pos d]
    obtain ⟨a1, a2, a3, a4, a5⟩ := nm_ok (T := T) (n := n) (lo := 0) (hi := 3000) (no := -1) c1 c2 hn
    refine ⟨a1, a2, ⟨by omega, a4⟩, fun h => ?_⟩
    obtain ⟨b1, b2, b3, b4⟩ := a5 h
    exact ⟨b1, fun _ => ⟨b2, b3⟩, fun q => absurd (by omega) q⟩
  · rw [if_neg d]
    by_cases d7 : pS T n = 7
    · rw [if_pos d7]
      obtain ⟨a1, a2, a3, a4, a5⟩ := nm_ok (T := T) (n := n) (lo := 0) (hi := 99) (no := -1) c1 c2 hn
      refine ⟨a1, a2, ⟨by omega, a4⟩, fun h => ?_⟩
      obtain ⟨b1, b2, b3, b4⟩ := a5 h
      exact ⟨b1, fun _ => ⟨b2, by omega⟩, fun q => absurd (by omega) q⟩
    · rw [if_neg d7]
      exact ⟨c1, c2, ⟨by dsimp only; omega, by dsimp only; omega⟩, fun h => ⟨h, fun q => absurd q (by omega), fun _ => rfl⟩⟩
theorem q4_ok {T : Nat → Int} {n N : Nat} (hn : n ≤ 60) : fo (q4 T n N).1 ∧ (q4 T n N).2.1 ≤ 61 ∧ (-5 ≤ (q4 T n N).2.2 ∧ (q4 T n N).2.2 ≤ 9999) ∧ ((q4 T n N).1 < 0 → (q3 T n N).1 < 0 ∧ ((pS T n = 0 ∨ pS T n = 1 ∨ pS T n = 4) → 0 ≤ (q4 T n N).2.2 ∧ (q4 T n N).2.2 ≤ 3000) ∧ (¬ (pS T n = 0 ∨ pS T n = 1 ∨ pS T n = 4) → (q4 T n N).2.2 = -5)) := by
  obtain ⟨c1, c2, c3, c4⟩ := q3_ok (T := T) (n := n) (N := N) hn
  unfold q4
  by_cases d : pS T n = 0 ∨ pS T n = 1 ∨ pS T n = 4
  · rw [if_pos d]
    obtain ⟨a1, a2, a3, a4, a5⟩ := nm_ok (T := T) (n := n) (lo := (q3 T n N).2.2) (hi := 3000) (no := -1) c1 c2 hn
    refine ⟨a1, a2, ⟨by omega, a4⟩, fun h => ?_⟩
    obtain ⟨b1, b2, b3, b4⟩ := a5 h
    exact ⟨b1, fun _ => ⟨a3, b3⟩, fun q => absurd d q⟩
  · rw [if_neg d]
    exact ⟨c1, c2, ⟨by dsimp only; omega, by dsimp only; omega⟩, fun h => ⟨h, fun q => absurd q d, fun _ => rfl⟩⟩
/-- what is so of a statement without a fault -/
theorem pF_ok {T : Nat → Int} {n N : Nat} (hn : n ≤ 60) (h : pF T n N < 0) : (0 ≤ pS T n ∧ pS T n ≤ 7) ∧ (0 ≤ (q1 T n N).2.2 ∧ (q1 T n N).2.2 < N) ∧ (((pS T n ≠ 0 ∧ pS T n ≠ 1 ∧ pS T n ≠ 6) ∧ 0 ≤ (q2 T n N).2.2 ∧ (q2 T n N).2.2 < N) ∨ (¬ (pS T n ≠ 0 ∧ pS T n ≠ 1 ∧ pS T n ≠ 6) ∧ (q2 T n N).2.2 = -5)) ∧ (((pS T n = 0 ∨ pS T n = 1 ∨ pS T n = 4 ∨ pS T n = 6 ∨ pS T n = 7) ∧ 0 ≤ (q3 T n N).2.2 ∧ (q3 T n N).2.2 ≤ 3000) ∨ (¬ (pS T n = 0 ∨ pS T n = 1 ∨ pS T n = 4 ∨ pS T n = 6 ∨ pS T n = 7) ∧ (q3 T n N).2.2 = -5)) ∧ (((pS T n = 0 ∨ pS T n = 1 ∨ pS T n = 4) ∧ 0 ≤ (q4 T n N).2.2 ∧ (q4 T n N).2.2 ≤ 3000) ∨ (¬ (pS T n = 0 ∨ pS T n = 1 ∨ pS T n = 4) ∧ (q4 T n N).2.2 = -5)) := by
  have e4 : (q4 T n N).1 < 0 := by
    unfold pF at h
    by_cases c : 0 ≤ (q4 T n N).1
    · rw [if_pos c] at h; exact h
    · omega
  obtain ⟨_, _, _, k4⟩ := q4_ok (T := T) (n := n) (N := N) hn
  obtain ⟨_, _, _, k3⟩ := q3_ok (T := T) (n := n) (N := N) hn
  obtain ⟨_, _, _, k2⟩ := q2_ok (T := T) (n := n) (N := N) hn
  obtain ⟨_, _, _, k1⟩ := q1_ok (T := T) (n := n) (N := N) hn
  obtain ⟨e3, a4, b4⟩ := k4 e4
  obtain ⟨e2, a3, b3⟩ := k3 e3
  obtain ⟨e1, a2, b2⟩ := k2 e2
  obtain ⟨e0, a1, b1⟩ := k1 e1
  have sb := pS_bd T n
  refine ⟨⟨e0, sb.2⟩, ⟨a1, b1⟩, ?_, ?_, ?_⟩
  · by_cases d : pS T n ≠ 0 ∧ pS T n ≠ 1 ∧ pS T n ≠ 6
    · exact Or.inl ⟨d, (a2 d).1, (a2 d).2.1⟩
    · exact Or.inr ⟨d, b2 d⟩
  · by_cases d : pS T n = 0 ∨ pS T n = 1 ∨ pS T n = 4 ∨ pS T n = 6 ∨ pS T n = 7
    · exact Or.inl ⟨d, a3 d⟩
    · exact Or.inr ⟨d, b3 d⟩
  · by_cases d : pS T n = 0 ∨ pS T n = 1 ∨ pS T n = 4
    · exact Or.inl ⟨d, a4 d⟩
    · exact Or.inr ⟨d, b4 d⟩
theorem pF_fo {T : Nat → Int} {n N : Nat} (hn : n ≤ 60) : fo (pF T n N) := by
  obtain ⟨k1, k2, _, _⟩ := q4_ok (T := T) (n := n) (N := N) hn
  unfold pF fo
  split
  · rcases k1 with k1 | k1 <;> omega
  · split <;> omega
/-- told without the other number first, and then with it -/
theorem nm_no {T : Nat → Int} {n p : Nat} {lo hi no f : Int} (hn : n ≤ 60) (hno : 0 ≤ no) : (nm T n lo hi no f p).2 = (nm T n lo hi (-1) f p).2 ∧ (nm T n lo hi no f p).1 = (if (nm T n lo hi (-1) f p).1 < 0 ∧ (nm T n lo hi (-1) f p).2.2 = no then ((p + 1 : Nat) : Int) else (nm T n lo hi (-1) f p).1) := by
  by_cases c1 : 0 ≤ f
  · rw [nm_f c1, nm_f c1]
    refine ⟨rfl, ?_⟩
    rw [if_neg (fun q => absurd q.1 (by dsimp only; omega))]
  · by_cases c2 : p < n ∧ T p = 32
    · have b := fg4 (T := T) (show p + 1 ≤ n by omega)
      by_cases c3 : nmB T n lo hi (-1) p
      · have c4 : nmB T n lo hi no p := by unfold nmB at *; omega
        rw [nm_y c1 c2 c3, nm_y c1 c2 c4]
        refine ⟨rfl, ?_⟩
        rw [if_neg (fun q => absurd q.1 (by dsimp only; omega))]
      · rw [nm_n c1 c2 c3]
        by_cases c5 : (fg T n 4 (p + 1) 0).2 = no
        · rw [nm_y c1 c2 (Or.inr (Or.inr (Or.inr c5)))]
          refine ⟨rfl, ?_⟩
          rw [if_pos ⟨show (-1 : Int) < 0 by decide, c5⟩]
        · have c4 : ¬ nmB T n lo hi no p := by unfold nmB at *; omega
          rw [nm_n c1 c2 c4]
          refine ⟨rfl, ?_⟩
          rw [if_neg (fun q => c5 q.2)]
    · rw [nm_b c1 c2, nm_b c1 c2]
      refine ⟨rfl, ?_⟩
      rw [if_neg (fun q => absurd q.1 (by dsimp only; omega))]
def RdS (z : Hp) (s f : Int) (p : Nat) (w1 w2 w3 w4 : Int) : Prop := z 85 0 = s ∧ z 85 5 = f ∧ (f < 0 → z 85 6 = p ∧ z 85 1 = w1 ∧ z 85 2 = w2 ∧ z 85 3 = w3 ∧ z 85 4 = w4) ∧ rg (z 85 3)
