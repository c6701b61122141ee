/-! the class's world, all of it -/
theorem allK_bit {n p : Nat} {g : Nat → Nat} (hg : gGood n g) : (allK g n).testBit p = true ↔ p < n ∧ g p = p := by
  have gen : ∀ k, (allK g k).testBit p = true ↔ ∃ j, j < k ∧ g j = p := fun k => by
    induction k with
    | zero => exact ⟨fun h => (by rw [show allK g 0 = 0 from rfl, Nat.zero_testBit] at h; cases h), fun ⟨j, h, _⟩ => absurd h (by omega)⟩
    | succ k ih =>
      rw [allK, Nat.testBit_or, Bool.or_eq_true, ih, pow_bit]
      constructor
      · rintro (⟨j, a, b⟩ | h)
        · exact ⟨j, by omega, b⟩
        · exact ⟨k, by omega, h⟩
      · rintro ⟨j, a, b⟩
        by_cases e : j = k
        · subst e; exact Or.inr b
        · exact Or.inl ⟨j, by omega, b⟩
  rw [gen]
  constructor
  · rintro ⟨j, a, rfl⟩
    exact ⟨hg.lt a, hg.2.1 j⟩
  · rintro ⟨a, b⟩
    exact ⟨p, a, b⟩
theorem lifeR_len (g : Nat → Nat) : ∀ k, (lifeR g k).length ≤ k
  | 0 => Nat.le_refl _
  | k + 1 => by
    have := lifeR_len g k
    rw [lifeR, List.length_append]
    split <;> simp only [List.length_cons, List.length_nil] <;> omega
theorem rls_len (S : Nat → Int) (g : Nat → Nat) (t : Nat) : (rls S g t).length ≤ 5 := by
  unfold rls
  simp only
  repeat' split
  all_goals simp
theorem stR_len (S : Nat → Int) (g : Nat → Nat) : ∀ l : List Nat, (stR S g l).length ≤ 5 * l.length
  | [] => Nat.le_refl _
  | t :: l => by
    have h1 := rls_len S g t
    have h2 := stR_len S g l
    rw [stR, List.length_append, List.length_cons]
    omega
theorem rls_ok2 {S : Nat → Int} {g : Nat → Nat} {t : Nat} : ∀ r ∈ rls S g t, 0 ≤ r.2.2.2.2 ∧ -1 ≤ r.2.1 := by
  unfold rls
  simp only
  intro r hr
  split at hr
  · simp only [List.mem_singleton] at hr; subst hr; exact ⟨by dsimp only; omega, by dsimp only; omega⟩
  split at hr
  · simp only [List.mem_singleton] at hr; subst hr; exact ⟨by dsimp only; omega, by dsimp only; omega⟩
  split at hr
  · simp only [List.mem_cons, List.not_mem_nil, or_false] at hr; rcases hr with rfl | rfl <;> exact ⟨by dsimp only; omega, by dsimp only; omega⟩
  split at hr
  · simp only [List.mem_cons, List.not_mem_nil, or_false] at hr; rcases hr with rfl | rfl <;> exact ⟨by dsimp only; omega, by dsimp only; omega⟩
  split at hr
  · simp only [List.mem_cons, List.not_mem_nil, or_false] at hr; rcases hr with rfl | rfl | rfl | rfl | rfl <;> exact ⟨by dsimp only; omega, by dsimp only; omega⟩
  split at hr
  · simp only [List.mem_cons, List.not_mem_nil, or_false] at hr; rcases hr with rfl | rfl <;> exact ⟨by dsimp only; omega, by dsimp only; omega⟩
  split at hr
  · simp only [List.mem_singleton] at hr; subst hr; exact ⟨by dsimp only; omega, by dsimp only; omega⟩
  · simp at hr
theorem lifeR_ok2 {g : Nat → Nat} : ∀ k, ∀ r ∈ lifeR g k, 0 ≤ r.2.2.2.2 ∧ -1 ≤ r.2.1
  | 0, r, hr => by simp [lifeR] at hr
  | k + 1, r, hr => by
    rw [lifeR, List.mem_append] at hr
    rcases hr with hr | hr
    · exact lifeR_ok2 k r hr
    · by_cases c : g k = k
      · rw [if_pos c, List.mem_singleton] at hr
        subst hr
        exact ⟨by dsimp only; omega, by dsimp only; omega⟩
      · rw [if_neg c] at hr; simp at hr
theorem stR_ok2 {S : Nat → Int} {g : Nat → Nat} : ∀ l : List Nat, ∀ r ∈ stR S g l, 0 ≤ r.2.2.2.2 ∧ -1 ≤ r.2.1
  | [], r, hr => by simp [stR] at hr
  | t :: l, r, hr => by
    rw [stR, List.mem_append] at hr
    exact hr.elim (rls_ok2 r) (stR_ok2 l r)
theorem allR_ok {n : Nat} {S : Nat → Int} {g : Nat → Nat} {l : List Nat} (hn : n ≤ 30) (hsn : sN S = n) (hg : gGood n g) (hl : ∀ t ∈ l, StOk n S t ∧ (fS S t = 4 → t < 60)) : ∀ r ∈ allR S g l, RlOk r ∧ 0 ≤ r.2.2.2.2 ∧ -1 ≤ r.2.1 := fun r hr => by
  unfold allR at hr
  rw [List.mem_append] at hr
  rcases hr with hr | hr
  · exact ⟨lifeR_ok _ (by omega) r hr, lifeR_ok2 _ r hr⟩
  · exact ⟨stR_ok hn hg l hl r hr, stR_ok2 l r hr⟩
theorem w_X8_takeRules {t r1 m : Nat} {S : Nat → Int} {g : Nat → Nat} {l : List Nat} {z : Hp} {K : Hp → Prop} (hd : r1 + 40 ≤ t) (hl : LsOk S m l) (hb : BkSt z r1 S m) (hg : Row z (t + 2 + 1) g) (hgg : gGood (sN S) g) (hall : z (t + 2) 1 = (allK g (sN S) : Nat)) (h1 : z t 1 = l.length) (hs : Said z (t + 1) l) (h8 : z (t + 13) 8 = 0) (k : ∀ z' : Hp, RuL z' (t + 13) (allR S g l) → AFr (t + 13) z z' → K z') : cal_X8_takeRules t r1 z K := by
  have hll := hl.1
  have hmm := hl.2.1
  obtain ⟨hn0, hn⟩ := hl.2.2.1
  have hall30 := allK_lt (g := g) (fun p hp => by have := hgg.1 p; omega) (sN S) hn
  show LP1 _ 0 z
  refine LP1_for 30 (fun j z' => RuL z' (t + 13) (lifeR g (min j (sN S))) ∧ AFr (t + 13) z z') 0 rfl (by omega) ⟨⟨by rw [Nat.zero_min]; exact h8, fun k r hr => by rw [Nat.zero_min] at hr; simp [lifeR] at hr⟩, AFr.rf⟩ (fun X j z1 hj hI hX => ?_) (fun X z1 hI => ?_)
  · obtain ⟨i1, i2⟩ := hI
    refine w_if ⟨by omega, by omega⟩ (fun e => absurd e (by omega)) (fun _ => ?_)
    have ea : z1 (t + 2) 1 = (allK g (sN S) : Nat) := by rw [i2.2 (t + 2) (by omega) (by omega) (by omega) (by omega) (by omega) (by omega)]; exact hall
    rw [ea]
    have hlen := lifeR_len g (min j (sN S))
    refine w_X1_has hall30 (by omega) (fun hb => w_t rg1 ?_) (fun hb => w_f rg0 (lt_i (hX z1 ⟨?_, i2⟩)))
    · have hp := (allK_bit hgg).mp hb
      refine w_X3_takeLife (by omega) i1 (fun z2 r2 f2 => lt_i (hX z2 ⟨?_, i2.tr f2⟩))
      rw [show min j (sN S) = j by omega] at r2
      rw [show min (j + 1) (sN S) = j + 1 by omega, lifeR, if_pos hp.2]
      exact r2
    · by_cases c : j < sN S
      · rw [show min j (sN S) = j by omega] at i1
        rw [show min (j + 1) (sN S) = j + 1 by omega, lifeR, if_neg (fun q => by rw [(allK_bit hgg).mpr ⟨c, q⟩] at hb; cases hb), List.append_nil]
        exact i1
      · rw [show min j (sN S) = sN S by omega] at i1
        rw [show min (j + 1) (sN S) = sN S by omega]
        exact i1
  · obtain ⟨i1, i2⟩ := hI
    rw [show min 30 (sN S) = sN S by omega] at i1
    refine w_if ⟨by omega, by omega⟩ (fun _ => ?_) (fun e => absurd e (by omega))
    show LP1 _ 0 z1
    refine LP1_for l.length (fun j z' => RuL z' (t + 13) (lifeR g (sN S) ++ stR S g (l.take j)) ∧ AFr (t + 13) z z') 0 rfl (by omega) ⟨by rw [List.take_zero, stR, List.append_nil]; exact i1, i2⟩ (fun X j z2 hj hI hX => ?_) (fun X z2 hI => ?_)
    · obtain ⟨j1, j2⟩ := hI
      have e1 : z2 t = z t := j2.2 t (by omega) (by omega) (by omega) (by omega) (by omega) (by omega)
      have e2 : z2 (t + 1) = z (t + 1) := j2.2 (t + 1) (by omega) (by omega) (by omega) (by omega) (by omega) (by omega)
      have e3 : z2 (t + 2 + 1) = z (t + 2 + 1) := j2.2 (t + 2 + 1) (by omega) (by omega) (by omega) (by omega) (by omega) (by omega)
      refine w_if2 ⟨by omega, by omega⟩ (by rw [e1, h1]; constructor <;> omega) (fun e => absurd e (by rw [e1, h1]; omega)) (fun _ => ⟨⟨by omega, by omega⟩, ?_⟩)
      obtain ⟨hτ, ho⟩ := hl.2.2.2 _ (getD_mem hj)
      rw [Int.toNat_natCast, e2, hs j hj]
      have c1 := lifeR_len g (sN S)
      have c2 := stR_len S g (l.take j)
      have c3 : (l.take j).length = j := by rw [List.length_take]; omega
      refine w_X3_takeStatement (n := sN S) (m := m) (S := S) (g := g) hn hmm hτ (hb.to (fun c hc => j2.2 c (by omega) (by omega) (by omega) (by omega) (by omega) (by omega))) (hg.to e3) ho hgg (by rw [List.length_append]; omega) j1 (fun z3 r3 f3 => lt_i (hX z3 ⟨?_, j2.tr f3⟩))
      rw [take_snoc hj, stR_app, stR, stR, List.append_nil, ← List.append_assoc]
      exact r3
    · obtain ⟨j1, j2⟩ := hI
      have e1 : z2 t = z t := j2.2 t (by omega) (by omega) (by omega) (by omega) (by omega) (by omega)
      rw [List.take_length] at j1
      exact w_if2 ⟨by omega, by omega⟩ (by rw [e1, h1]; constructor <;> omega) (fun _ => k z2 j1 j2) (fun e => absurd e (by rw [e1, h1]; omega))
/-- the live ones but one -/
def selK (S : Nat → Int) (w : Int) (k : Nat) : List Nat := (lvK S k).filter (fun i => decide ((i : Int) ≠ w))
theorem selK_succ (S : Nat → Int) (w : Int) (k : Nat) : selK S w (k + 1) = selK S w k ++ (if fV S k = 1 ∧ (k : Int) ≠ w then [k] else []) := by
  unfold selK
  rw [lvK_succ, List.filter_append]
  congr 1
  by_cases h : fV S k = 1
  · rw [if_pos (show isLv S k = true from decide_eq_true h)]
    by_cases c : (k : Int) ≠ w
    · rw [if_pos ⟨h, c⟩, List.filter_cons_of_pos (p := fun i : Nat => decide ((i : Int) ≠ w)) (a := k) (l := []) (decide_eq_true c)]; rfl
    · rw [if_neg (fun q => c q.2), List.filter_cons_of_neg (p := fun i : Nat => decide ((i : Int) ≠ w)) (a := k) (l := []) (fun q => c (of_decide_eq_true q))]; rfl
  · rw [if_neg (show ¬ isLv S k = true from fun q => h (of_decide_eq_true q)), if_neg (fun q => h q.1)]; rfl
theorem selK_len (S : Nat → Int) (w : Int) : ∀ k, (selK S w k).length ≤ k
  | 0 => Nat.le_refl _
  | k + 1 => by
    have := selK_len S w k
    rw [selK_succ, List.length_append]
    split <;> simp only [List.length_cons, List.length_nil] <;> omega
theorem selK_mem {S : Nat → Int} {w : Int} {k t : Nat} (h : t ∈ selK S w k) : t < k ∧ fV S t = 1 ∧ (t : Int) ≠ w := by
  unfold selK at h
  rw [List.mem_filter] at h
  have := lvK_lt h.1
  exact ⟨this.1, this.2, of_decide_eq_true h.2⟩
def P1f (S : Nat → Int) (l : List Nat) (p : Nat) : Prop := gL S l p = p ∧ sxR S (gL S l) (paL S (gL S l) 2 l) (paL S (gL S l) 3 l) p (sN S) = 3
def P2f (S : Nat → Int) (l : List Nat) (p : Nat) : Prop := 1 < cntB (paL S (gL S l) 2 l p) 30 ∨ 1 < cntB (paL S (gL S l) 3 l p) 30
def P3f (ab : Nat → Nat) (p : Nat) : Prop := (ab p).testBit p = true
/-- a world of the class at t is what the statements l of S say, by so many rounds at most -/
def ClsW (z : Hp) (t : Nat) (S : Nat → Int) (l : List Nat) (F : Nat) : Prop := z t 1 = (l.length : Int) ∧ Said z (t + 1) l ∧ ∃ (ab : Nat → Nat) (cl wh : Int), FolkIs z (t + 2) S l ab ∧ LkIs' (sN S) (P1f S l) (P2f S l) (P3f ab) cl wh ∧ z t 5 = wh ∧ ((cl ≠ 0 ∧ z t 4 = cl ∧ (∃ v, ClsR z (t + 13) (cSt v)) ∧ z (t + 13) 9 = 0) ∨ (cl = 0 ∧ ClsR z (t + 13) (runR (allR S (gL S l) l) F 0 rSt0).2 ∧ z (t + 13) 9 = (runR (allR S (gL S l) l) F 0 rSt0).1 ∧ ((z t 4 = 0 ∧ rCl (runR (allR S (gL S l) l) F 0 rSt0).2 = 0 ∧ rCh (runR (allR S (gL S l) l) F 0 rSt0).2 = 0) ∨ (z t 4 = 4 ∧ ¬ (rCl (runR (allR S (gL S l) l) F 0 rSt0).2 = 0 ∧ rCh (runR (allR S (gL S l) l) F 0 rSt0).2 = 0)))))
theorem FolkIs.to {z z' : Hp} {f : Nat} {S : Nat → Int} {l : List Nat} {ab : Nat → Nat} (h : FolkIs z f S l ab) (e : ∀ c, f ≤ c → c ≤ f + 10 → z' c = z c) : FolkIs z' f S l ab := by
  obtain ⟨h1, h2, h3, h4, h5, h6, h7, h8⟩ := h
  refine ⟨h1, ?_, ?_, h4.to (e _ (by omega) (by omega)), h5.to (e _ (by omega) (by omega)), h6.keep (fun c a b => e c (by omega) (by omega)), h7.to (e _ (by omega) (by omega)), ?_⟩
  · rw [e f (by omega) (by omega)]; exact h2
  · rw [e f (by omega) (by omega)]; exact h3
  · rcases h8 with ⟨a, b⟩ | ⟨a, b, c⟩
    · exact Or.inl ⟨a, by rw [e f (by omega) (by omega)]; exact b⟩
    · exact Or.inr ⟨a, by rw [e f (by omega) (by omega)]; exact b, c.to (e _ (by omega) (by omega))⟩
