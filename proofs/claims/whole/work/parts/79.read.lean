/-! numbers read from the tape -/
def fg (T : Nat → Int) (n : Nat) : Nat → Nat → Int → Nat × Int
  | 0, p, v => (p, v)
  | k + 1, p, v => if p < n ∧ 48 ≤ T p ∧ T p ≤ 57 then fg T n k (p + 1) (10 * v + T p - 48) else (p, v)
theorem fg_bd {T : Nat → Int} {n : Nat} : ∀ (k p : Nat) (v : Int), 0 ≤ v → p ≤ (fg T n k p v).1 ∧ ((fg T n k p v).1 ≤ n ∨ (fg T n k p v).1 = p) ∧ 0 ≤ (fg T n k p v).2 ∧ (fg T n k p v).2 + 1 ≤ (v + 1) * 10 ^ k
  | 0, p, v, hv => ⟨Nat.le_refl _, Or.inr rfl, hv, by show v + 1 ≤ (v + 1) * 10 ^ 0; rw [Int.pow_zero, Int.mul_one]; exact Int.le_refl _⟩
  | k + 1, p, v, hv => by
    rw [fg]
    by_cases c : p < n ∧ 48 ≤ T p ∧ T p ≤ 57
    · rw [if_pos c]
      obtain ⟨a1, a2, a3, a4⟩ := fg_bd (T := T) (n := n) k (p + 1) (10 * v + T p - 48) (by omega)
      refine ⟨by omega, by omega, a3, Int.le_trans a4 ?_⟩
      rw [Int.pow_succ, Int.mul_comm (10 ^ k) 10, ← Int.mul_assoc]
      exact Int.mul_le_mul_of_nonneg_right (by omega) (Int.le_of_lt (Int.pow_pos (by decide)))
    · rw [if_neg c]
      refine ⟨Nat.le_refl _, Or.inr rfl, hv, ?_⟩
      have : (1 : Int) ≤ 10 ^ (k + 1) := Int.pow_pos (by decide)
      have := Int.mul_le_mul_of_nonneg_left this (show (0 : Int) ≤ v + 1 by omega)
      rw [Int.mul_one] at this
      exact this
theorem fg4 {T : Nat → Int} {n p : Nat} (hp : p ≤ n) : p ≤ (fg T n 4 p 0).1 ∧ (fg T n 4 p 0).1 ≤ n ∧ 0 ≤ (fg T n 4 p 0).2 ∧ (fg T n 4 p 0).2 ≤ 9999 := by
  obtain ⟨a1, a2, a3, a4⟩ := fg_bd (T := T) (n := n) 4 p 0 (Int.le_refl _)
  have : (0 + 1 : Int) * 10 ^ 4 = 10000 := by decide
  rw [this] at a4
  exact ⟨a1, by omega, a3, by omega⟩
def nmB (T : Nat → Int) (n : Nat) (lo hi no : Int) (p : Nat) : Prop := (fg T n 4 (p + 1) 0).1 = p + 1 ∨ (fg T n 4 (p + 1) 0).2 < lo ∨ hi < (fg T n 4 (p + 1) 0).2 ∨ (fg T n 4 (p + 1) 0).2 = no
/-- fault, place, number behind a blank -/
noncomputable def nm (T : Nat → Int) (n : Nat) (lo hi no : Int) (f : Int) (p : Nat) : Int × Nat × Int :=
  if 0 ≤ f then (f, p, 0) else if p < n ∧ T p = 32 then (@ite Int (nmB T n lo hi no p) (Classical.propDecidable _) ((p + 1 : Nat) : Int) (-1), (fg T n 4 (p + 1) 0).1, (fg T n 4 (p + 1) 0).2) else ((p : Int), p, 0)
theorem nm_f {T : Nat → Int} {n p : Nat} {lo hi no f : Int} (h : 0 ≤ f) : nm T n lo hi no f p = (f, p, 0) := by unfold nm; rw [if_pos h]
theorem nm_b {T : Nat → Int} {n p : Nat} {lo hi no f : Int} (h : ¬ 0 ≤ f) (h2 : ¬ (p < n ∧ T p = 32)) : nm T n lo hi no f p = ((p : Int), p, 0) := by unfold nm; rw [if_neg h, if_neg h2]
theorem nm_y {T : Nat → Int} {n p : Nat} {lo hi no f : Int} (h : ¬ 0 ≤ f) (h2 : p < n ∧ T p = 32) (h3 : nmB T n lo hi no p) : nm T n lo hi no f p = (((p + 1 : Nat) : Int), (fg T n 4 (p + 1) 0).1, (fg T n 4 (p + 1) 0).2) := by unfold nm; rw [if_neg h, if_pos h2, if_pos h3]
theorem nm_n {T : Nat → Int} {n p : Nat} {lo hi no f : Int} (h : ¬ 0 ≤ f) (h2 : p < n ∧ T p = 32) (h3 : ¬ nmB T n lo hi no p) : nm T n lo hi no f p = (-1, (fg T n 4 (p + 1) 0).1, (fg T n 4 (p + 1) 0).2) := by unfold nm; rw [if_neg h, if_pos h2, if_neg h3]
theorem nm_ok {T : Nat → Int} {n p : Nat} {lo hi no f : Int} (hf : f = -1 ∨ (0 ≤ f ∧ f ≤ 61)) (hp : p ≤ 61) (hn : n ≤ 60) : ((nm T n lo hi no f p).1 = -1 ∨ (0 ≤ (nm T n lo hi no f p).1 ∧ (nm T n lo hi no f p).1 ≤ 61)) ∧ (nm T n lo hi no f p).2.1 ≤ 61 ∧ 0 ≤ (nm T n lo hi no f p).2.2 ∧ (nm T n lo hi no f p).2.2 ≤ 9999 ∧ ((nm T n lo hi no f p).1 < 0 → f < 0 ∧ lo ≤ (nm T n lo hi no f p).2.2 ∧ (nm T n lo hi no f p).2.2 ≤ hi ∧ (nm T n lo hi no f p).2.2 ≠ no) := by
  by_cases c1 : 0 ≤ f
  · rw [nm_f c1]; exact ⟨hf, hp, Int.le_refl _, by dsimp only; omega, fun q => absurd c1 (by dsimp only at q; omega)⟩
  · by_cases c2 : p < n ∧ T p = 32
    · have b := fg4 (T := T) (show p + 1 ≤ n by omega)
      by_cases c3 : nmB T n lo hi no p
      · rw [nm_y c1 c2 c3]; exact ⟨Or.inr ⟨by dsimp only; omega, by dsimp only; omega⟩, by dsimp only; omega, b.2.2.1, b.2.2.2, fun q => by dsimp only at q; omega⟩
      · rw [nm_n c1 c2 c3]
        refine ⟨Or.inl rfl, by dsimp only; omega, b.2.2.1, b.2.2.2, fun _ => ⟨by omega, ?_, ?_, ?_⟩⟩
        · exact Decidable.byContradiction fun q => c3 (Or.inr (Or.inl (by dsimp only at q; omega)))
        · exact Decidable.byContradiction fun q => c3 (Or.inr (Or.inr (Or.inl (by dsimp only at q; omega))))
        · exact fun q => c3 (Or.inr (Or.inr (Or.inr q)))
    · rw [nm_b c1 c2]; exact ⟨Or.inr ⟨by dsimp only; omega, by dsimp only; omega⟩, hp, Int.le_refl _, by dsimp only; omega, fun q => by dsimp only at q; omega⟩
def TpC (z : Hp) (n : Nat) (T : Nat → Int) : Prop := z 81 1 = n ∧ n ≤ 60 ∧ ∀ i, i < n → z 82 i = T i ∧ 1 ≤ T i ∧ T i ≤ 127
theorem w_isFigure {n p : Nat} {T : Nat → Int} {z : Hp} {K : Int → Prop} (h : TpC z n T) (hp : p ≤ 70) (h1 : p < n ∧ 48 ≤ T p ∧ T p ≤ 57 → K 1) (h0 : ¬ (p < n ∧ 48 ≤ T p ∧ T p ≤ 57) → K 0) : cal_X5_isFigure 81 p z K := by
  refine w_at (n := n) ⟨by omega, by omega⟩ h.1 (by rw [klT81]; exact h.2.1) (by rw [klT81]; omega) (fun i hi hin => lt_i ?_) (fun q => lt_i ?_)
  · have : i = p := by omega
    subst this
    have b := h.2.2 i hin
    rw [show 81 + 1 = 82 from rfl, b.1]
    exact w_if ⟨by omega, by omega⟩ (fun e => h0 (by omega)) (fun e => w_if ⟨by omega, by omega⟩ (fun e' => h0 (by omega)) (fun e' => h1 (by omega)))
  · exact ⟨⟨by decide, by decide⟩, by rw [if_pos (by decide)]; exact h0 (by omega)⟩
/-- the reader's cell, but for what is read -/
def RF5 (z z' : Hp) : Prop := (∀ j, j ≠ 5 → j ≠ 6 → j ≠ 7 → z' 85 j = z 85 j) ∧ ∀ c, c ≠ 85 → z' c = z c
theorem RF5.tp {z z' : Hp} {n : Nat} {T : Nat → Int} (f : RF5 z z') (h : TpC z n T) : TpC z' n T := by
  unfold TpC
  rw [f.2 81 (by decide), f.2 82 (by decide)]
  exact h
set_option maxHeartbeats 1000000 in
theorem w_takeNumberR {n p : Nat} {T : Nat → Int} {lo hi f : Int} {z : Hp} {K : Int → Hp → Prop} (h : TpC z n T) (hf : f = -1 ∨ (0 ≤ f ∧ f ≤ 61)) (h5 : z 85 5 = f) (h6 : f < 0 → z 85 6 = p) (hp : p ≤ 61) (hlo : rg lo) (hhi : rg hi) (k : ∀ (v : Int) (z' : Hp), z' 85 5 = (nm T n lo hi (-1) f p).1 → ((nm T n lo hi (-1) f p).1 < 0 → v = (nm T n lo hi (-1) f p).2.2 ∧ z' 85 6 = (nm T n lo hi (-1) f p).2.1 ∧ z' 85 7 = ((p + 1 : Nat) : Int)) → rg v → RF5 z z' → K v z') : cal_X4_takeNumber 85 81 lo hi z K := by
  have n60 := h.2.1
  unfold cal_X4_takeNumber
  rw [h5]
  refine w_if (by rcases hf with rfl | hf <;> constructor <;> omega) (fun e => ?_) (fun e => ?_)
  rotate_left
  · have c1 : 0 ≤ f := by omega
    rw [nm_f c1] at k
    exact k (-5) z h5 (fun q => by dsimp only at q; omega) ⟨by decide, by decide⟩ ⟨fun _ _ _ _ => rfl, fun _ _ => rfl⟩
  have c1 : ¬ 0 ≤ f := by omega
  rw [h6 e]
  have no : ¬ (p < n ∧ T p = 32) → hp1 (kup z 85 5 (p : Int)) (fun z20 => K (-5) z20) := fun c2 => by
    rw [nm_b c1 c2] at k
    exact hp_i (k (-5) _ kup_eq (fun q => by dsimp only at q; omega) ⟨by decide, by decide⟩ ⟨fun j a _ _ => kup_n (fun q => a q.2), fun c hc => by funext i; exact kup_c hc⟩)
  refine w_at (n := n) ⟨by omega, by omega⟩ h.1 (by rw [klT81]; exact h.2.1) (by rw [klT81]; omega) (fun i hi' hin => ?_) (fun q => ⟨⟨by decide, by decide⟩, ?_⟩)
  rotate_left
  · rw [if_neg (by decide)]; exact no (fun r => by omega)
  have : i = p := by omega
  subst this
  have b := h.2.2 i hin
  rw [show 81 + 1 = 82 from rfl, b.1]
  refine w_if ⟨by omega, by omega⟩ (fun e32 => hp_i (hp_i (lt_i (lt_i ?_)))) (fun e32 => no (fun r => e32 r.2))
  have c2 : i < n ∧ T i = 32 := ⟨hin, e32⟩
  have g6 : kup (kup z 85 7 ((i : Int) + 1)) 85 6 (kup z 85 7 ((i : Int) + 1) 85 7) 85 6 = ((i + 1 : Nat) : Int) := by rw [kup_eq, kup_eq]; omega
  have g7 : kup (kup z 85 7 ((i : Int) + 1)) 85 6 (kup z 85 7 ((i : Int) + 1) 85 7) 85 7 = ((i + 1 : Nat) : Int) := by rw [kup_n (by decide), kup_eq]; omega
  have g5 : kup (kup z 85 7 ((i : Int) + 1)) 85 6 (kup z 85 7 ((i : Int) + 1) 85 7) 85 5 = -1 := by rw [kup_n (by decide), kup_n (by decide), h5]; omega
  have gf : RF5 z (kup (kup z 85 7 ((i : Int) + 1)) 85 6 (kup z 85 7 ((i : Int) + 1) 85 7)) := ⟨fun j a b c => by rw [kup_n (fun q => b q.2), kup_n (fun q => c q.2)], fun c hc => by funext y; rw [kup_c hc, kup_c hc]⟩
  generalize kup (kup z 85 7 ((i : Int) + 1)) 85 6 (kup z 85 7 ((i : Int) + 1) 85 7) = z3 at *
  have B := fg4 (T := T) (show i + 1 ≤ n by omega)
  -- when the figures are over
  have fin : ∀ z12 : Hp, z12 85 6 = ((fg T n 4 (i + 1) 0).1 : Int) → z12 85 7 = ((i + 1 : Nat) : Int) → z12 85 5 = -1 → RF5 z z12 → jn (fun J13 : Prop => rg (z12 85 6) ∧ rg (z12 85 7) ∧ if (z12 85 6) = (z12 85 7) then (J13) else (rg (fg T n 4 (i + 1) 0).2 ∧ rg lo ∧ if (fg T n 4 (i + 1) 0).2 < lo then (J13) else (rg (fg T n 4 (i + 1) 0).2 ∧ rg hi ∧ if (fg T n 4 (i + 1) 0).2 ≤ hi then (K (fg T n 4 (i + 1) 0).2 z12) else (J13)))) (hp1 (kup z12 85 5 (z12 85 7)) (fun z14 => K (-5) z14)) := fun z12 q6 q7 q5 qf => by
    have bad : nmB T n lo hi (-1) i → hp1 (kup z12 85 5 (z12 85 7)) (fun z14 => K (-5) z14) := fun q => by
      rw [nm_y c1 c2 q] at k
      exact hp_i (k (-5) _ (by rw [kup_eq]; exact q7) (fun q => by dsimp only at q; omega) ⟨by decide, by decide⟩ ⟨fun j a b c => by rw [kup_n (fun q => a q.2)]; exact qf.1 j a b c, fun c hc => by funext y; rw [kup_c hc, qf.2 c hc]⟩)
    refine jn_i (fun (J : Prop) => nmB T n lo hi (-1) i → J) bad (fun J hJ => ?_)
    rw [q6, q7]
    refine w_if2 ⟨by omega, by omega⟩ ⟨by omega, by omega⟩ (fun e1 => hJ (Or.inl (by omega))) (fun e1 => w_if2 ⟨by omega, by omega⟩ hlo (fun e2 => hJ (Or.inr (Or.inl e2))) (fun e2 => w_if2 ⟨by omega, by omega⟩ hhi (fun e3 => ?_) (fun e3 => hJ (Or.inr (Or.inr (Or.inl (by omega)))))))
    have good : ¬ nmB T n lo hi (-1) i := fun q => by unfold nmB at q; omega
    rw [nm_n c1 c2 good] at k
    exact k _ z12 q5 (fun _ => ⟨rfl, q6, q7⟩) ⟨by omega, by omega⟩ qf
  refine LP2_for 4 (fun j v z' => ∃ P : Nat, z' 85 6 = P ∧ P ≤ n ∧ 0 ≤ v ∧ fg T n (4 - j) P v = fg T n 4 (i + 1) 0 ∧ z' 85 7 = ((i + 1 : Nat) : Int) ∧ z' 85 5 = -1 ∧ RF5 z z') 0 rfl (by omega) ⟨i + 1, g6, by omega, Int.le_refl _, rfl, g7, g5, gf⟩ (fun X j v z4 hj hI hX => ?_) (fun X v z4 hI => ?_)
  · obtain ⟨P, p1, p2, p3, p4, p5, p6, p7⟩ := hI
    rw [show 4 - j = (4 - (j + 1)) + 1 by omega, fg] at p4
    refine jn_i (fun J => ¬ (P < n ∧ 48 ≤ T P ∧ T P ≤ 57) → J v z4) (fun q => ?_) (fun J hJ => w_if ⟨by omega, by omega⟩ (fun e => absurd e (by omega)) (fun _ => ?_))
    · rw [if_neg q] at p4
      have e1 : (fg T n 4 (i + 1) 0).1 = P := by rw [← p4]
      have e2 : (fg T n 4 (i + 1) 0).2 = v := by rw [← p4]
      have := fin z4 (by rw [e1]; exact p1) p5 p6 p7
      rw [e2] at this
      exact this
    · rw [p1]
      have tp4 := p7.tp h
      refine w_isFigure tp4 (by omega) (fun q => w_t rg1 ?_) (fun q => w_f rg0 (hJ q))
      rw [if_pos q] at p4
      refine w_at (n := n) ⟨by omega, by omega⟩ tp4.1 (by rw [klT81]; exact h.2.1) (by rw [klT81]; omega) (fun i2 hi2 hin2 => lt_i (hp_i (lt_i (hX _ _ ⟨P + 1, ?_, by omega, ?_, ?_, ?_, ?_, ?_⟩)))) (fun r => absurd r (by omega))
      · rw [kup_eq]; omega
      · have : i2 = P := by omega
        subst this
        rw [show 81 + 1 = 82 from rfl, (tp4.2.2 i2 hin2).1]; omega
      · have : i2 = P := by omega
        subst this
        rw [show 81 + 1 = 82 from rfl, (tp4.2.2 i2 hin2).1]; exact p4
      · rw [kup_n (by decide)]; exact p5
      · rw [kup_n (by decide)]; exact p6
      · exact ⟨fun j a b c => by rw [kup_n (fun q => b q.2)]; exact p7.1 j a b c, fun c hc => by funext y; rw [kup_c hc, p7.2 c hc]⟩
  · obtain ⟨P, p1, p2, p3, p4, p5, p6, p7⟩ := hI
    rw [Nat.sub_self, fg] at p4
    have e1 : (fg T n 4 (i + 1) 0).1 = P := by rw [← p4]
    have e2 : (fg T n 4 (i + 1) 0).2 = v := by rw [← p4]
    refine jn_i (fun J => J v z4) ?_ (fun J hJ => w_if ⟨by omega, by omega⟩ (fun _ => hJ) (fun e => absurd e (by omega)))
    have := fin z4 (by rw [e1]; exact p1) p5 p6 p7
    rw [e2] at this
    exact this
theorem w_takeNumber {n p : Nat} {T : Nat → Int} {lo hi f : Int} {z : Hp} {K : Int → Hp → Prop} (h : TpC z n T) (hf : f = -1 ∨ (0 ≤ f ∧ f ≤ 61)) (h5 : z 85 5 = f) (h6 : f < 0 → z 85 6 = p) (hp : p ≤ 61) (hlo : rg lo) (hhi : rg hi) (k : ∀ (v : Int) (z' : Hp), z' 85 5 = (nm T n lo hi (-1) f p).1 → ((nm T n lo hi (-1) f p).1 < 0 → v = (nm T n lo hi (-1) f p).2.2 ∧ z' 85 6 = (nm T n lo hi (-1) f p).2.1 ∧ z' 85 7 = ((p + 1 : Nat) : Int)) → RF5 z z' → K v z') : cal_X4_takeNumber 85 81 lo hi z K :=
  w_takeNumberR h hf h5 h6 hp hlo hhi (fun v z' a b _ c => k v z' a b c)
def TpM (z : Hp) (n : Nat) (T : Nat → Int) : Prop := z 0 6 = n ∧ n ≤ 60 ∧ ∀ i, i < n → z 3 i = T i ∧ 1 ≤ T i ∧ T i ≤ 127
def RM8 (z z' : Hp) : Prop := (∀ j, j ≠ 8 → j ≠ 9 → z' 0 j = z 0 j) ∧ ∀ c, c ≠ 0 → z' c = z c
theorem RM8.rf {z : Hp} : RM8 z z := ⟨fun _ _ _ => rfl, fun _ _ => rfl⟩
theorem RM8.tr {z z' z'' : Hp} (h : RM8 z z') (h' : RM8 z' z'') : RM8 z z'' := ⟨fun j a b => by rw [h'.1 j a b, h.1 j a b], fun c a => by rw [h'.2 c a, h.2 c a]⟩
theorem RM8.tp {z z' : Hp} {n : Nat} {T : Nat → Int} (f : RM8 z z') (h : TpM z n T) : TpM z' n T := by
  unfold TpM
  rw [f.1 6 (by decide) (by decide), f.2 3 (by decide)]
  exact h
theorem w_fails {a f : Int} {z : Hp} {K : Hp → Prop} (hf : f = -1 ∨ (0 ≤ f ∧ f ≤ 61)) (h9 : z 0 9 = f) (k : ∀ z' : Hp, z' 0 9 = (if 0 ≤ f then f else a) → (∀ j, j ≠ 9 → z' 0 j = z 0 j) → (∀ c, c ≠ 0 → z' c = z c) → K z') : cal_X10_fails a z K := by
  unfold cal_X10_fails
  rw [h9]
  refine w_if (by rcases hf with rfl | hf <;> constructor <;> omega) (fun e => ?_) (fun e => hp_i ?_)
  · rw [if_pos e] at k; exact k z h9 (fun _ _ => rfl) (fun _ _ => rfl)
  · rw [if_neg e] at k; exact k _ kup_eq (fun j hj => kup_n (fun q => hj q.2)) (fun c hc => by funext i; exact kup_c hc)
set_option maxHeartbeats 1000000 in
theorem w_number {n p : Nat} {T : Nat → Int} {lo hi no f : Int} {z : Hp} {K : Int → Hp → Prop} (h : TpM z n T) (hf : f = -1 ∨ (0 ≤ f ∧ f ≤ 61)) (h9 : z 0 9 = f) (h8 : z 0 8 = p) (hp : p ≤ 61) (hlo : rg lo) (hhi : rg hi) (hno : rg no) (k : ∀ z' : Hp, z' 0 9 = (nm T n lo hi no f p).1 → z' 0 8 = ((nm T n lo hi no f p).2.1 : Nat) → RM8 z z' → K (nm T n lo hi no f p).2.2 z') : cal_X10_number lo hi no z K := by
  have rf : ∀ g : Int, (g = -1 ∨ (0 ≤ g ∧ g ≤ 61)) → rg g := fun g hg => by rcases hg with rfl | hg <;> constructor <;> omega
  unfold cal_X10_number
  -- the part behind the figures, with nothing read
  have fin0 : ∀ z' : Hp, z' 0 8 = p → z' 0 9 = (if 0 ≤ f then f else (p : Int)) → (0 ≤ f ∨ ¬ (p < n ∧ T p = 32)) → RM8 z z' → jn (fun J11 : Hp → Prop => rg (z' 0 8) ∧ rg (p : Int) ∧ if (z' 0 8) = (p : Int) then (cal_X10_fails (z' 0 8) z' (fun z16 => J11 z16)) else (J11 z')) (fun z12 => cal_X10_isIn 0 lo hi z12 (fun v13 => jn (fun J14 : Prop => rg v13 ∧ if v13 = 0 then (J14) else (rg 0 ∧ rg no ∧ if (0 : Int) = no then (J14) else (K 0 z12))) (cal_X10_fails p z12 (fun z15 => K 0 z15)))) := fun z' q8 q9 q qf => by
    have hf' : (if 0 ≤ f then f else (p : Int)) = -1 ∨ (0 ≤ (if 0 ≤ f then f else (p : Int)) ∧ (if 0 ≤ f then f else (p : Int)) ≤ 61) := by
      by_cases c : 0 ≤ f
      · rw [if_pos c]; omega
      · rw [if_neg c]; omega
    have pos : 0 ≤ (if 0 ≤ f then f else (p : Int)) := by split <;> omega
    have en : nm T n lo hi no f p = ((if 0 ≤ f then f else (p : Int)), p, 0) := by
      by_cases c : 0 ≤ f
      · rw [nm_f c, if_pos c]
      · rw [nm_b c (q.resolve_left c), if_neg c]
    rw [en] at k
    have kk : ∀ y : Hp, y 0 9 = z' 0 9 → (∀ j, j ≠ 9 → y 0 j = z' 0 j) → (∀ c, c ≠ 0 → y c = z' c) → K 0 y := fun y a b c => k y (by rw [a]; exact q9) (by rw [b 8 (by decide)]; exact q8) (qf.tr ⟨fun j _ y9 => b j y9, c⟩)
    refine jn_i (fun J => ∀ y : Hp, y 0 9 = z' 0 9 → (∀ j, j ≠ 9 → y 0 j = z' 0 j) → (∀ c, c ≠ 0 → y c = z' c) → J y) (fun y a b c => ?_) (fun J hJ => ?_)
    · have last : cal_X10_fails p y (fun z15 => K 0 z15) := w_fails hf' (by rw [a]; exact q9) (fun y2 a2 b2 c2 => kk y2 (by rw [a2, if_pos pos, q9]) (fun j hj => by rw [b2 j hj, b j hj]) (fun d hd => by rw [c2 d hd, c d hd]))
      refine w_X10_isIn rg0 hlo hhi (fun _ => jn_i (fun (J : Prop) => J) last (fun J hJ => w_t rg1 (w_if2 rg0 hno (fun _ => hJ) (fun _ => kk y a b c)))) (fun _ => jn_i (fun (J : Prop) => J) last (fun J hJ => w_f rg0 hJ))
    · rw [q8]
      refine ⟨⟨by omega, by omega⟩, ⟨by omega, by omega⟩, ?_⟩
      rw [if_pos rfl]
      exact w_fails hf' q9 (fun y a b c => hJ y (by rw [a, if_pos pos, q9]) b c)
  by_cases c1 : 0 ≤ f
  · -- a fault already
    refine jn_i (fun J => J z) ?_ (fun J hJ => jn_i (fun J' => J' z) ?_ (fun J' hJ' => by rw [h9]; exact w_if (rf f hf) (fun _ => hJ') (fun q => absurd c1 q)))
    · rw [h8]
      refine lt_i (lt_i ?_)
      refine fun X hX => hX 0 z ?_
      refine jn_i (fun J => J 0 z) (fin0 z h8 (by rw [if_pos c1]; exact h9) (Or.inl c1) RM8.rf) (fun J hJ => by rw [h9]; exact w_if (rf f hf) (fun _ => hJ) (fun q => absurd c1 q))
    · rw [h8]
      exact w_fails hf h9 (fun z' a b c => by
        have : z' = z := by
          funext x y
          by_cases hx : x = 0
          · subst hx
            by_cases hy : y = 9
            · subst hy; rw [a, if_pos c1, h9]
            · exact b y hy
          · rw [c x hx]
        rw [this]; exact hJ)
  · have f1 : f = -1 := by omega
    by_cases c2 : p < n ∧ T p = 32
    · -- a blank
      have b := h.2.2 p c2.1
      have B := fg4 (T := T) (show p + 1 ≤ n by omega)
      have g8 : kup z 0 8 ((p : Int) + 1) 0 8 = ((p + 1 : Nat) : Int) := by rw [kup_eq]; omega
      have g9 : kup z 0 8 ((p : Int) + 1) 0 9 = -1 := by rw [kup_n (by decide), h9, f1]
      have gf : RM8 z (kup z 0 8 ((p : Int) + 1)) := ⟨fun j a _ => kup_n (fun q => a q.2), fun c hc => by funext i; exact kup_c hc⟩
      refine jn_i (fun J => J (kup z 0 8 ((p : Int) + 1))) ?_ (fun J hJ => jn_i (fun _ => True) trivial (fun J' _ => ?_))
      rotate_left
      · rw [h9, h8, h.1]
        refine w_if (rf f hf) (fun q => absurd q c1) (fun _ => w_if2 ⟨by omega, by omega⟩ ⟨by omega, by have := h.2.1; omega⟩ (fun q => absurd q (by omega)) (fun _ => ⟨⟨by omega, by have := h.2.1; omega⟩, ?_⟩))
        rw [Int.toNat_natCast, b.1]
        exact w_if ⟨by omega, by omega⟩ (fun _ => hp_i hJ) (fun q => absurd c2.2 q)
      generalize kup z 0 8 ((p : Int) + 1) = z2 at *
      rw [g8]
      refine lt_i (lt_i ?_)
      have n60 := h.2.1
      -- behind the figures
      have fin : ∀ z10 : Hp, z10 0 8 = ((fg T n 4 (p + 1) 0).1 : Int) → z10 0 9 = -1 → RM8 z z10 → jn (fun J11 : Hp → Prop => rg (z10 0 8) ∧ rg ((p + 1 : Nat) : Int) ∧ if (z10 0 8) = ((p + 1 : Nat) : Int) then (cal_X10_fails (z10 0 8) z10 (fun z16 => J11 z16)) else (J11 z10)) (fun z12 => cal_X10_isIn (fg T n 4 (p + 1) 0).2 lo hi z12 (fun v13 => jn (fun J14 : Prop => rg v13 ∧ if v13 = 0 then (J14) else (rg (fg T n 4 (p + 1) 0).2 ∧ rg no ∧ if (fg T n 4 (p + 1) 0).2 = no then (J14) else (K (fg T n 4 (p + 1) 0).2 z12))) (cal_X10_fails ((p + 1 : Nat) : Int) z12 (fun z15 => K (fg T n 4 (p + 1) 0).2 z15)))) := fun z10 q8 q9 qf => by
        have bad : ∀ y : Hp, nmB T n lo hi no p → (y 0 9 = -1 ∨ y 0 9 = ((p + 1 : Nat) : Int)) → (∀ j, j ≠ 9 → y 0 j = z10 0 j) → (∀ c, c ≠ 0 → y c = z10 c) → cal_X10_fails ((p + 1 : Nat) : Int) y (fun z15 => K (fg T n 4 (p + 1) 0).2 z15) := fun y hb a b c => by
          rw [nm_y c1 c2 hb] at k
          refine w_fails (f := y 0 9) (a.elim (fun q => Or.inl q) (fun q => Or.inr (by omega))) rfl (fun y2 a2 b2 c2' => k y2 ?_ (by rw [b2 8 (by decide), b 8 (by decide)]; exact q8) (qf.tr ⟨fun j _ j9 => by rw [b2 j j9, b j j9], fun d hd => by rw [c2' d hd, c d hd]⟩))
          rw [a2]
          rcases a with q | q
          · rw [q, if_neg (by decide)]
          · rw [q, if_pos (by omega)]
        have rv : rg (fg T n 4 (p + 1) 0).2 := ⟨by omega, by omega⟩
        have r61 : (fg T n 4 (p + 1) 0).1 ≤ 61 := by omega
        refine jn_i (fun J => ∀ y : Hp, (((fg T n 4 (p + 1) 0).1 = p + 1 ∧ y 0 9 = ((p + 1 : Nat) : Int)) ∨ ((fg T n 4 (p + 1) 0).1 ≠ p + 1 ∧ y 0 9 = -1)) → (∀ j, j ≠ 9 → y 0 j = z10 0 j) → (∀ c, c ≠ 0 → y c = z10 c) → J y) (fun y a b c => ?_) (fun J hJ => ?_)
        · have a' : y 0 9 = -1 ∨ y 0 9 = ((p + 1 : Nat) : Int) := a.elim (fun q => Or.inr q.2) (fun q => Or.inl q.2)
          refine w_X10_isIn rv hlo hhi (fun i1 => ?_) (fun i0 => jn_i (fun (J : Prop) => J) (bad y (by unfold nmB; omega) a' b c) (fun J hJ => w_f rg0 hJ))
          by_cases hb : nmB T n lo hi no p
          · refine jn_i (fun (J : Prop) => J) (bad y hb a' b c) (fun J hJ => w_t rg1 (w_if2 rv hno (fun _ => hJ) (fun q => ?_)))
            have e1 : (fg T n 4 (p + 1) 0).1 = p + 1 := by
              unfold nmB at hb
              rcases hb with r | r | r | r
              · exact r
              · omega
              · omega
              · exact absurd r q
            have : y 0 9 = ((p + 1 : Nat) : Int) := a.elim (fun r => r.2) (fun r => absurd e1 r.1)
            rw [nm_y c1 c2 hb] at k
            exact k y this (by rw [b 8 (by decide)]; exact q8) (qf.tr ⟨fun j _ j9 => b j j9, c⟩)
          · refine jn_i (fun (_ : Prop) => True) trivial (fun J _ => w_t rg1 (w_if2 rv hno (fun q => absurd (Or.inr (Or.inr (Or.inr q))) hb) (fun q => ?_)))
            rw [nm_n c1 c2 hb] at k
            exact k y (a.elim (fun r => absurd (Or.inl r.1) hb) (fun r => r.2)) (by rw [b 8 (by decide)]; exact q8) (qf.tr ⟨fun j _ j9 => b j j9, c⟩)
        · rw [q8]
          refine w_if2 ⟨by omega, by omega⟩ ⟨by omega, by omega⟩ (fun e => w_fails (f := -1) (Or.inl rfl) q9 (fun y a b c => hJ y (Or.inl ⟨by omega, ?_⟩) b c)) (fun e => hJ z10 (Or.inr ⟨fun q => e (by rw [q]), q9⟩) (fun _ _ => rfl) (fun _ _ => rfl))
          rw [a, if_neg (by decide)]; exact e
      refine LP1_ind (fun m v z' => ∃ P : Nat, m ≤ 4 ∧ z' 0 8 = P ∧ P + m = p + 5 ∧ P ≤ n ∧ 0 ≤ v ∧ fg T n m P v = fg T n 4 (p + 1) 0 ∧ z' 0 9 = -1 ∧ RM8 z z') (fun X m v z4 hI hX => ?_) (n := 4) ⟨p + 1, Nat.le_refl _, g8, by omega, by omega, Int.le_refl _, rfl, g9, gf⟩
      obtain ⟨P, m4, p1, pm, p2, p3, p4, p6, p7⟩ := hI
      have tp4 := p7.tp h
      have ex : ((m = 0 ∨ ¬ (P < n ∧ 48 ≤ T P ∧ T P ≤ 57)) → (fg T n 4 (p + 1) 0).1 = P ∧ (fg T n 4 (p + 1) 0).2 = v) := fun q => by
        cases m with
        | zero => rw [fg] at p4; rw [← p4]; exact ⟨rfl, rfl⟩
        | succ m => rw [fg, if_neg (q.resolve_left (by omega))] at p4; rw [← p4]; exact ⟨rfl, rfl⟩
      refine jn_i (fun J => (m = 0 ∨ ¬ (P < n ∧ 48 ≤ T P ∧ T P ≤ 57)) → J v z4) (fun q => ?_) (fun J hJ => ?_)
      · obtain ⟨e1, e2⟩ := ex q
        have := fin z4 (by rw [e1]; exact p1) p6 p7
        rw [e2] at this
        exact this
      · rw [p6, p1, tp4.1]
        refine ⟨⟨by decide, by decide⟩, ?_⟩
        rw [if_neg (by decide)]
        refine w_if2 ⟨by omega, by omega⟩ ⟨by omega, by omega⟩ (fun q => hJ (Or.inr (by omega))) (fun q => w_if2 ⟨by omega, by omega⟩ ⟨by omega, by omega⟩ (fun q2 => hJ (Or.inl (by omega))) (fun q2 => ⟨⟨by omega, by omega⟩, ?_⟩))
        have bP := tp4.2.2 P (by omega)
        rw [Int.toNat_natCast, bP.1]
        refine w_X10_isIn ⟨by omega, by omega⟩ ⟨by decide, by decide⟩ ⟨by decide, by decide⟩ (fun d => w_t rg1 ⟨⟨by omega, by omega⟩, lt_i (hp_i ?_)⟩) (fun d => w_f rg0 (hJ (Or.inr (fun r => d r.2))))
        obtain ⟨m', rfl⟩ : ∃ m', m = m' + 1 := ⟨m - 1, by omega⟩
        rw [fg, if_pos ⟨by omega, d⟩] at p4
        refine hX m' _ _ (by omega) ⟨P + 1, by omega, ?_, by omega, by omega, by omega, p4, ?_, p7.tr ⟨fun j a _ => kup_n (fun q => a q.2), fun c hc => by funext i; exact kup_c hc⟩⟩
        · rw [kup_eq]; omega
        · rw [kup_n (by decide)]; exact p6
    · -- no blank
      have n60 := h.2.1
      refine jn_i (fun J => ∀ z' : Hp, z' 0 9 = (p : Int) → (∀ j, j ≠ 9 → z' 0 j = z 0 j) → (∀ c, c ≠ 0 → z' c = z c) → J z') (fun z2 a b c => ?_) (fun J hJ => jn_i (fun J' => J' z) ?_ (fun J' hJ' => ?_))
      · have e8 : z2 0 8 = p := by rw [b 8 (by decide)]; exact h8
        rw [e8]
        refine lt_i (lt_i ?_)
        refine fun X hX => hX 0 z2 ?_
        refine jn_i (fun J => J 0 z2) (fin0 z2 e8 (by rw [if_neg c1]; exact a) (Or.inr c2) ⟨fun j _ j9 => b j j9, c⟩) (fun J hJ => by rw [a]; exact w_if ⟨by omega, by omega⟩ (fun _ => hJ) (fun q => absurd (by omega) q))
      · rw [h8]
        exact w_fails hf h9 (fun z' a b c => hJ z' (by rw [a, if_neg c1]) b c)
      · rw [h9, h8, h.1]
        refine w_if (rf f hf) (fun q => absurd q c1) (fun _ => w_if2 ⟨by omega, by omega⟩ ⟨by omega, by omega⟩ (fun _ => hJ') (fun q => ⟨⟨by omega, by omega⟩, ?_⟩))
        have b := h.2.2 p (by omega)
        rw [Int.toNat_natCast, b.1]
        exact w_if ⟨by omega, by omega⟩ (fun e => absurd ⟨by omega, e⟩ c2) (fun _ => hJ')
