/-! the class's working out: who is one with whom -/
def BkSt (z : Hp) (r : Nat) (S : Nat → Int) (m : Nat) : Prop := ∀ t, t < m → z (r + 34) t = fS S t ∧ z (r + 35) t = (fA S t : Int) ∧ z (r + 36) t = fB S t ∧ z (r + 37) t = fL S t ∧ z (r + 38) t = fH S t
theorem BkSt.to {z z' : Hp} {r m : Nat} {S : Nat → Int} (h : BkSt z r S m) (e : ∀ c, c ≤ r + 39 → z' c = z c) : BkSt z' r S m := fun t ht => by
  rw [e _ (by omega), e _ (by omega), e _ (by omega), e _ (by omega), e _ (by omega)]
  exact h t ht
def Said (z : Hp) (c : Nat) (l : List Nat) : Prop := ∀ j, j < l.length → z c j = ((l.getD j 0 : Nat) : Int)
/-- the statements that a world speaks of: good ones, with their numbers below m -/
def LsOk (S : Nat → Int) (m : Nat) (l : List Nat) : Prop := l.length ≤ 61 ∧ m ≤ 61 ∧ (S 0 = sN S ∧ sN S ≤ 30) ∧ ∀ t ∈ l, t < m ∧ StOk (sN S) S t
theorem getD_mem {l : List Nat} {j : Nat} (h : j < l.length) : l.getD j 0 ∈ l := by
  rw [List.getD_eq_getElem?_getD, List.getElem?_eq_getElem h]
  exact List.getElem_mem h
theorem take_snoc {l : List Nat} {j : Nat} (h : j < l.length) : l.take (j + 1) = l.take j ++ [l.getD j 0] := by
  rw [List.take_succ, List.getD_eq_getElem?_getD, List.getElem?_eq_getElem h]
  rfl
theorem gL_good' {S : Nat → Int} {m : Nat} {l : List Nat} (h : LsOk S m l) (k : Nat) : gGood (sN S) (gL S (l.take k)) := by
  refine foldl_inv _ _ ⟨fun _ => Nat.le_refl _, fun _ => rfl, fun _ _ => rfl⟩ (fun g t ht hg => ?_)
  have ho := (h.2.2.2 t (List.mem_of_mem_take ht)).2
  by_cases h5 : fS S t = 5
  · exact jst_good hg ho.a (ho.b ⟨by omega, by omega, by omega⟩)
  · unfold jst; rw [if_neg h5]; exact hg
theorem w_X1_rename {t n : Nat} {a b : Int} {z : Hp} {K : Hp → Prop} (hn : n ≤ 30) (ha : rg a) (hr : ∀ p, p < 30 → rg (z (t + 1) p)) (k : ∀ z' : Hp, (∀ p, p < 30 → z' (t + 1) p = if p < n ∧ z (t + 1) p = a then b else z (t + 1) p) → (∀ c, c ≠ t + 1 → z' c = z c) → K z') : cal_X1_rename t a b n z K := by
  show LP1 _ 0 z
  refine LP1_for n (fun j z' => (∀ p, p < 30 → z' (t + 1) p = if p < j ∧ z (t + 1) p = a then b else z (t + 1) p) ∧ ∀ c, c ≠ t + 1 → z' c = z c) 0 rfl (by omega) ⟨fun p hp => by rw [if_neg (by omega)], fun _ _ => rfl⟩ (fun X j z1 hj hI hX => ?_) (fun X z1 hI => ?_)
  · refine w_if2 ⟨by omega, by omega⟩ ⟨by omega, by omega⟩ (fun e => absurd e (by omega)) (fun _ => ⟨⟨by omega, by omega⟩, ?_⟩)
    have hv := hI.1 j (by omega)
    rw [if_neg (by omega)] at hv
    rw [Int.toNat_natCast]
    refine ⟨by rw [hv]; exact hr j (by omega), ha, w_ite (fun e => ⟨⟨by omega, by omega⟩, hX _ ⟨fun p hp => ?_, fun c hc => ?_⟩⟩) (fun e => hX _ ⟨fun p hp => ?_, hI.2⟩)⟩
    · by_cases q : p = j
      · subst q; rw [kup_eq, if_pos ⟨by omega, by rw [← hv]; exact e⟩]
      · rw [kup_n (fun r => q r.2), hI.1 p hp]
        by_cases c : p < j ∧ z (t + 1) p = a
        · rw [if_pos c, if_pos ⟨by omega, c.2⟩]
        · rw [if_neg c, if_neg (fun r => c ⟨by omega, r.2⟩)]
    · funext i; rw [kup_c hc, hI.2 c hc]
    · rw [hI.1 p hp]
      by_cases c : p < j ∧ z (t + 1) p = a
      · rw [if_pos c, if_pos ⟨by omega, c.2⟩]
      · rw [if_neg c, if_neg (fun r => c ⟨Decidable.byContradiction fun h => e (by rw [hv, show j = p by omega]; exact r.2), r.2⟩)]
  · exact w_if2 ⟨by omega, by omega⟩ ⟨by omega, by omega⟩ (fun _ => k z1 hI.1 hI.2) (fun e => absurd e (by omega))
theorem w_X1_joinSames {t r1 r2 m : Nat} {S : Nat → Int} {l : List Nat} {z : Hp} {K : Hp → Prop} (hd : r1 + 40 ≤ r2 ∧ r2 < t) (hl : LsOk S m l) (hb : BkSt z r1 S m) (h0 : z r1 0 = S 0) (hs : Said z r2 l) (hg : ∀ p, p < 30 → z (t + 1) p = p) (k : ∀ z' : Hp, (∀ p, p < 30 → z' (t + 1) p = gL S l p) → (∀ c, c ≠ t + 1 → z' c = z c) → K z') : cal_X1_joinSames t r1 r2 l.length z K := by
  have hll := hl.1
  have hmm := hl.2.1
  obtain ⟨hn0, hn⟩ := hl.2.2.1
  show LP1 _ 0 z
  refine LP1_for l.length (fun j z' => (∀ p, p < 30 → z' (t + 1) p = gL S (l.take j) p) ∧ ∀ c, c ≠ t + 1 → z' c = z c) 0 rfl (by omega) ⟨fun p hp => hg p hp, fun _ _ => rfl⟩ (fun X j z1 hj hI hX => ?_) (fun X z1 hI => ?_)
  · refine w_if2 ⟨by omega, by omega⟩ ⟨by omega, by omega⟩ (fun e => absurd e (by omega)) (fun _ => ⟨⟨by omega, by omega⟩, ?_⟩)
    obtain ⟨hτ, ho⟩ := hl.2.2.2 _ (getD_mem hj)
    have hgg := gL_good' hl j
    have hsj := hs j hj
    have hX' : ∀ z' : Hp, (∀ p, p < 30 → z' (t + 1) p = (jst S (gL S (l.take j)) (l.getD j 0) p : Nat)) → (∀ c, c ≠ t + 1 → z' c = z c) → X (↑j + 1) z' := fun z' q1 q2 => hX z' ⟨fun p hp => by rw [take_snoc hj, gL_snoc]; exact q1 p hp, q2⟩
    generalize l.getD j 0 = τ at *
    obtain ⟨b1, b2, b3, b4, b5⟩ := hb τ hτ
    rw [Int.toNat_natCast, hI.2 r2 (by omega), hsj]
    refine lt_i ⟨⟨by omega, by omega⟩, ?_⟩
    rw [Int.toNat_natCast, hI.2 (r1 + 34) (by omega), b1]
    have q0 := ho.1
    refine ⟨⟨by omega, by omega⟩, w_ite (fun q5 => ⟨⟨by omega, by omega⟩, ?_⟩) (fun q5 => hX' z1 (fun p hp => by rw [hI.1 p hp]; unfold jst; rw [if_neg q5]) hI.2)⟩
    have two : isTwo (fS S τ) := ⟨by omega, by omega, by omega⟩
    have ha := ho.a
    have hb' := ho.b two
    have e2 : fB S τ = ((fB S τ).toNat : Int) := by
      rcases ho.2.2.1 with q | q
      · omega
      · exact absurd two q.1
    rw [hI.2 (r1 + 35) (by omega), b2, hI.2 (r1 + 36) (by omega), b3, e2]
    refine ⟨⟨by omega, by omega⟩, lt_i ⟨⟨by omega, by omega⟩, ⟨by omega, by omega⟩, lt_i ?_⟩⟩
    rw [Int.toNat_natCast, Int.toNat_natCast, hI.1 _ (by omega), hI.1 _ (by omega)]
    have la := hgg.1 (fA S τ)
    have lb := hgg.1 (fB S τ).toNat
    refine ⟨⟨by omega, by omega⟩, ⟨by omega, by omega⟩, ⟨by omega, by omega⟩, ⟨by omega, by omega⟩, ?_⟩
    rw [hI.2 r1 (by omega), h0, hn0]
    refine w_X1_rename hn ?_ (fun p hp => by rw [hI.1 p hp]; have := hgg.1 p; constructor <;> omega) (fun z' q1 q2 => hX' z' (fun p hp => ?_) (fun c hc => by rw [q2 c hc, hI.2 c hc]))
    · generalize gL S (l.take j) (fA S τ) = a at *
      generalize gL S (l.take j) (fB S τ).toNat = b at *
      by_cases q : (a : Int) < b
      · rw [if_pos q]; constructor <;> omega
      · rw [if_neg q]; constructor <;> omega
    · rw [q1 p hp, hI.1 p hp]
      unfold jst
      rw [if_pos q5]
      generalize gL S (l.take j) (fA S τ) = a at *
      generalize gL S (l.take j) (fB S τ).toNat = b at *
      generalize gL S (l.take j) p = c at *
      have e1 : (if (a : Int) < b then (b : Int) else a) = ((max a b : Nat) : Int) := by
        by_cases q : a < b
        · rw [if_pos (by omega)]; omega
        · rw [if_neg (by omega)]; omega
      have e3 : (if (b : Int) < a then (b : Int) else a) = ((min a b : Nat) : Int) := by
        by_cases q : b < a
        · rw [if_pos (by omega)]; omega
        · rw [if_neg (by omega)]; omega
      rw [e1, e3]
      by_cases q : p < sN S ∧ (c : Int) = ((max a b : Nat) : Int)
      · rw [if_pos q, if_pos ⟨q.1, by omega⟩]
      · rw [if_neg q]
        by_cases q' : p < sN S ∧ (c = a ∨ c = b)
        · rw [if_pos q']; omega
        · rw [if_neg q']
  · refine w_if2 ⟨by omega, by omega⟩ ⟨by omega, by omega⟩ (fun _ => k z1 (fun p hp => ?_) hI.2) (fun e => absurd e (by omega))
    rw [hI.1 p hp, List.take_length]
