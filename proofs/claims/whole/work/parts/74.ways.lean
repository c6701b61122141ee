/-! the nearest one above both -/
def bst (U D : Nat → Nat) : Nat → Nat
  | 0 => 30
  | k + 1 => if U k ≠ 99 ∧ D k ≠ 99 ∧ (bst U D k = 30 ∨ U k + D k < U (bst U D k) + D (bst U D k) ∨ (U k + D k = U (bst U D k) + D (bst U D k) ∧ U k < U (bst U D k))) then k else bst U D k
theorem bst_ok {U D : Nat → Nat} : ∀ k, k ≤ 30 → bst U D k = 30 ∨ (bst U D k < k ∧ U (bst U D k) ≠ 99 ∧ D (bst U D k) ≠ 99)
  | 0, _ => Or.inl rfl
  | k + 1, hk => by
    have ih := bst_ok (U := U) (D := D) k (by omega)
    rw [bst]
    by_cases c : U k ≠ 99 ∧ D k ≠ 99 ∧ (bst U D k = 30 ∨ U k + D k < U (bst U D k) + D (bst U D k) ∨ (U k + D k = U (bst U D k) + D (bst U D k) ∧ U k < U (bst U D k)))
    · rw [if_pos c]; exact Or.inr ⟨by omega, c.1, c.2.1⟩
    · rw [if_neg c]
      rcases ih with h | ⟨h1, h2⟩
      · exact Or.inl h
      · exact Or.inr ⟨by omega, h2⟩
theorem bst_up {U D : Nat → Nat} {n : Nat} (h : ∀ p, n ≤ p → p < 30 → U p = 99) : ∀ d, n + d ≤ 30 → bst U D (n + d) = bst U D n
  | 0, _ => rfl
  | d + 1, hd => by rw [show n + (d + 1) = (n + d) + 1 by omega, bst, if_neg (fun q => q.1 (h (n + d) (by omega) (by omega))), bst_up h d (by omega)]
def cU (U : Nat → Nat) (p : Nat) : Int := if U p = 99 then -1 else (U p : Int)
def BstC (z : Hp) (U D : Nat → Nat) (k : Nat) : Prop := (bst U D k = 30 ∧ z 133 2 = -1) ∨ (bst U D k < 30 ∧ z 133 2 = (bst U D k : Nat) ∧ z 133 3 = (U (bst U D k) : Nat) ∧ z 133 4 = (D (bst U D k) : Nat))
def WayC (z : Hp) (U D : Nat → Nat) : Prop := BstC z U D 30 ∧ (∀ p, p < 30 → z 134 p = cU U p) ∧ ∀ p, p < 30 → z 135 p = cU D p
def WayM (z : Hp) (U D : Nat → Nat) : Prop := z 0 27 = (if bst U D 30 = 30 then -5 else (bst U D 30 : Int)) ∧ (∀ p, p < 30 → z 13 p = (U p : Nat)) ∧ ∀ p, p < 30 → z 14 p = (D p : Nat)
def OkU (U : Nat → Nat) : Prop := ∀ p, U p < 30 ∨ U p = 99
theorem okU (pr : Nat → Nat) (a : Nat) : OkU (dU pr a) := fun p => (dU_cs pr a p).elim (fun h => Or.inl h.1) (fun h => Or.inr h.1)
set_option maxHeartbeats 1000000 in
theorem w_X7_seek {a b n : Nat} {pr : Nat → Nat} {z : Hp} {K : Hp → Prop} (hn : n ≤ 30) (ha : a < n) (hb : b < n) (hpr : PaOk n pr) (h6 : Row z 94 pr) (k : ∀ z' : Hp, WayC z' (dU pr a) (dU pr b) → (∀ c, c ≠ 133 → c ≠ 134 → c ≠ 135 → z' c = z c) → K z') : cal_X7_seek 133 88 a b z K := by
  refine w_X7_count (r1 := 88) (r3 := 134) hn ha hpr (by decide) h6 (fun z1 a1 f1 => w_X7_count (r1 := 88) (r3 := 135) hn hb hpr (by decide) (h6.to (f1 94 (by decide))) (fun z2 a2 f2 => hp_i (lt_i ?_)))
  have oU := okU pr a
  have oD := okU pr b
  have A1 : ∀ p, p < 30 → z2 134 p = cU (dU pr a) p := fun p hp => by rw [f2 134 (by decide)]; exact a1 p hp
  have A2 : ∀ p, p < 30 → z2 135 p = cU (dU pr b) p := a2
  generalize dU pr a = U at *
  generalize dU pr b = D at *
  refine LP1_for 30 (fun j z' => BstC z' U D j ∧ z' 134 = z2 134 ∧ z' 135 = z2 135 ∧ ∀ c, c ≠ 133 → z' c = z2 c) 0 rfl (by omega) ⟨Or.inl ⟨rfl, kup_eq⟩, by funext i; exact kup_c (by decide), by funext i; exact kup_c (by decide), fun c hc => by funext i; exact kup_c hc⟩ (fun X j z3 hj hI hX => ?_) (fun X z3 hI => ?_)
  · obtain ⟨hB, e1, e2, hf⟩ := hI
    have ij : inb (j : Int) 30 := ⟨by omega, by omega⟩
    have hX' : ∀ z', BstC z' U D (j + 1) → (∀ c, c ≠ 133 → z' c = z3 c) → X ((j : Int) + 1) z' := fun z' q1 q2 => hX z' ⟨q1, by rw [q2 134 (by decide), e1], by rw [q2 135 (by decide), e2], fun c hc => by rw [q2 c hc, hf c hc]⟩
    have skip : ¬ (U j ≠ 99 ∧ D j ≠ 99 ∧ (bst U D j = 30 ∨ U j + D j < U (bst U D j) + D (bst U D j) ∨ (U j + D j = U (bst U D j) + D (bst U D j) ∧ U j < U (bst U D j)))) → X ((j : Int) + 1) z3 := fun q => hX' z3 (by unfold BstC; rw [bst, if_neg q]; exact hB) (fun _ _ => rfl)
    have v1 : z3 134 j = cU U j := by rw [e1]; exact A1 j hj
    have v2 : z3 135 j = cU D j := by rw [e2]; exact A2 j hj
    have oj := oU j
    have od := oD j
    refine w_if ⟨by omega, by omega⟩ (fun e => absurd e (by omega)) (fun _ => ⟨ij, ?_⟩)
    refine jn_i (fun J => (¬ (U j ≠ 99 ∧ D j ≠ 99 ∧ (bst U D j = 30 ∨ U j + D j < U (bst U D j) + D (bst U D j) ∨ (U j + D j = U (bst U D j) + D (bst U D j) ∧ U j < U (bst U D j)))) → J z3) ∧ ∀ z', BstC z' U D (j + 1) → (∀ c, c ≠ 133 → z' c = z3 c) → J z') ⟨fun q => lt_i (skip q), fun z' q1 q2 => lt_i (hX' z' q1 q2)⟩ (fun J hJ => ?_)
    rw [Int.toNat_natCast, v1, v2]
    have c1 : cU U j = -1 ∧ U j = 99 ∨ cU U j = U j ∧ U j < 30 := by
      unfold cU
      rcases oj with o | o
      · rw [if_neg (by omega)]; exact Or.inr ⟨rfl, o⟩
      · rw [if_pos o]; exact Or.inl ⟨rfl, o⟩
    have c2 : cU D j = -1 ∧ D j = 99 ∨ cU D j = D j ∧ D j < 30 := by
      unfold cU
      rcases od with o | o
      · rw [if_neg (by omega)]; exact Or.inr ⟨rfl, o⟩
      · rw [if_pos o]; exact Or.inl ⟨rfl, o⟩
    refine w_if ⟨by omega, by omega⟩ (fun e => hJ.1 (fun q => q.1 (by omega))) (fun e => ⟨ij, w_if ⟨by omega, by omega⟩ (fun e' => hJ.1 (fun q => q.2.1 (by omega))) (fun e' => ?_)⟩)
    have u1 : cU U j = U j := by omega
    have u2 : cU D j = D j := by omega
    refine jn_i (fun (J11 : Prop) => (bst U D j = 30 ∨ U j + D j < U (bst U D j) + D (bst U D j) ∨ (U j + D j = U (bst U D j) + D (bst U D j) ∧ U j < U (bst U D j))) → J11) (fun q => ?_) (fun J11 h11 => ?_)
    · refine hp_i ⟨ij, hp_i ⟨ij, hp_i (hJ.2 _ (Or.inr ?_) (fun c hc => by funext i; rw [kup_c hc, kup_c hc, kup_c hc]))⟩⟩
      rw [bst, if_pos ⟨by omega, by omega, q⟩]
      refine ⟨hj, ?_, ?_, ?_⟩
      · rw [kup_n (by omega), kup_n (by omega), kup_eq]
      · rw [kup_n (by omega), kup_eq, kup_c (by decide)]; exact v1.trans u1
      · rw [kup_eq, kup_c (by decide), kup_c (by decide)]; exact v2.trans u2
    · rcases hB with ⟨b1, b2⟩ | ⟨b1, b2, b3, b4⟩
      · rw [b2]
        exact ⟨⟨by decide, by decide⟩, by rw [if_pos (by decide)]; exact h11 (Or.inl b1)⟩
      · rw [b2]
        refine w_if ⟨by omega, by omega⟩ (fun e => absurd e (by omega)) (fun _ => ⟨ij, ij, ?_⟩)
        rcases bst_ok (U := U) (D := D) j (by omega) with q | ⟨q1, q2, q3⟩
        · omega
        have w1 := oU (bst U D j)
        have w2 := oD (bst U D j)
        have v1' : z3 (133 + 1) (j : Int).toNat = U j := by rw [Int.toNat_natCast]; show z3 134 j = _; rw [v1, u1]
        have v2' : z3 (133 + 2) (j : Int).toNat = D j := by rw [Int.toNat_natCast]; show z3 135 j = _; rw [v2, u2]
        rw [v1', v2', b3, b4]
        refine lt_i (jn_i (fun (J : Prop) => (U j + D j < U (bst U D j) + D (bst U D j) ∨ (U j + D j = U (bst U D j) + D (bst U D j) ∧ U j < U (bst U D j))) → J) (fun q => w_t rg1 (h11 (Or.inr q))) (fun J2 h2 => w_if2 ⟨by omega, by omega⟩ ⟨by omega, by omega⟩ (fun c => h2 (Or.inl (by omega))) (fun c => w_if2 ⟨by omega, by omega⟩ ⟨by omega, by omega⟩ (fun d => ⟨ij, w_if2 ⟨by omega, by omega⟩ ⟨by omega, by omega⟩ (fun f => w_f rg0 (hJ.1 (fun q => by omega))) (fun f => h2 (Or.inr ⟨by omega, by omega⟩))⟩) (fun d => w_f rg0 (hJ.1 (fun q => by omega))))))
  · obtain ⟨hB, e1, e2, hf⟩ := hI
    refine w_if ⟨by omega, by omega⟩ (fun _ => k z3 ⟨hB, fun p hp => by rw [e1]; exact A1 p hp, fun p hp => by rw [e2]; exact A2 p hp⟩ (fun c q1 q2 q3 => by rw [hf c q1, f2 c q3, f1 c q2])) (fun e => absurd e (by omega))
theorem dU_hi {pr : Nat → Nat} {n a : Nat} (hp : PaOk n pr) (ha : a < n) {p : Nat} (h : n ≤ p) : dU pr a p = 99 := dU_no (fun k _ q => by have := Fr_lt hp ha k p q; omega)
set_option maxHeartbeats 1000000 in
theorem w_X10_meets {a b n : Nat} {mo fa g : Nat → Nat} {z : Hp} {K : Int → Hp → Prop} (hn : n ≤ 30) (ha : a < 30) (hb : b < 30) (hga : g a < n) (hgb : g b < n) (hpr : PaOk n (fun p => mo p ||| fa p)) (h0 : z 1 0 = n) (h6 : Row z 6 g) (h7 : Row z 7 mo) (h8 : Row z 8 fa) (hm : ∀ p, p < 30 → mo p < 1073741824) (hf : ∀ p, p < 30 → fa p < 1073741824) (k : ∀ (v : Int) (z' : Hp), v = (if bst (dU (fun p => mo p ||| fa p) (g a)) (dU (fun p => mo p ||| fa p) (g b)) 30 = 30 then 0 else 1) → WayM z' (dU (fun p => mo p ||| fa p) (g a)) (dU (fun p => mo p ||| fa p) (g b)) → (∀ j, j ≠ 27 → z' 0 j = z 0 j) → (∀ c, c ≠ 0 → c ≠ 13 → c ≠ 14 → z' c = z c) → K v z') : cal_X10_meets a b z K := by
  unfold cal_X10_meets
  rw [Int.toNat_natCast, h6 a ha]
  refine ⟨⟨by omega, by omega⟩, w_X10_steps (r := 13) hn hga hpr (Or.inl rfl) h0 h7 h8 hm hf (fun z1 a1 f1 => ⟨⟨by omega, by omega⟩, ?_⟩)⟩
  rw [Int.toNat_natCast, h6.to (f1 6 (by decide)) b hb]
  refine w_X10_steps (r := 14) hn hgb hpr (Or.inr rfl) (by rw [f1 1 (by decide)]; exact h0) (h7.to (f1 7 (by decide))) (h8.to (f1 8 (by decide))) hm hf (fun z2 a2 f2 => hp_i (lt_i ?_))
  have oU := okU (fun p => mo p ||| fa p) (g a)
  have oD := okU (fun p => mo p ||| fa p) (g b)
  have hi : ∀ p, n ≤ p → p < 30 → dU (fun p => mo p ||| fa p) (g a) p = 99 := fun p h _ => dU_hi hpr hga h
  have A1 : ∀ p, p < 30 → z2 13 p = (dU (fun p => mo p ||| fa p) (g a) p : Nat) := fun p hp => by rw [f2 13 (by decide)]; exact a1 p hp
  generalize dU (fun p => mo p ||| fa p) (g a) = U at *
  generalize dU (fun p => mo p ||| fa p) (g b) = D at *
  have eb : bst U D 30 = bst U D n := by have := bst_up (U := U) (D := D) hi (30 - n) (by omega); rwa [show n + (30 - n) = 30 by omega] at this
  refine LP1_for n (fun j z' => z' 0 27 = (if bst U D j = 30 then -5 else (bst U D j : Int)) ∧ (∀ i, i ≠ 27 → z' 0 i = z2 0 i) ∧ ∀ c, c ≠ 0 → z' c = z2 c) 0 rfl (by omega) ⟨kup_eq, fun i hi => kup_n (fun q => hi q.2), fun c hc => by funext i; exact kup_c hc⟩ (fun X j z3 hj hI hX => ?_) (fun X z3 hI => ?_)
  · obtain ⟨hB, hs, hc⟩ := hI
    have e1 : z3 1 0 = n := by rw [hc 1 (by decide), f2 1 (by decide), f1 1 (by decide)]; exact h0
    have ij : inb (j : Int) 30 := ⟨by omega, by omega⟩
    have oj := oU j
    have od := oD j
    have r1 : ∀ p, p < 30 → z3 13 p = (U p : Nat) := fun p hp => by rw [hc 13 (by decide)]; exact A1 p hp
    have r2 : ∀ p, p < 30 → z3 14 p = (D p : Nat) := fun p hp => by rw [hc 14 (by decide)]; exact a2 p hp
    refine w_if2 ⟨by omega, by omega⟩ (by rw [e1]; constructor <;> omega) (fun e => absurd e (by rw [e1]; omega)) (fun _ => ⟨ij, ?_⟩)
    have hX' : ∀ z', z' 0 27 = (if bst U D (j + 1) = 30 then -5 else (bst U D (j + 1) : Int)) → (∀ i, i ≠ 27 → z' 0 i = z3 0 i) → (∀ c, c ≠ 0 → z' c = z3 c) → X ((j : Int) + 1) z' := fun z' q1 q2 q3 => hX z' ⟨q1, fun i hi => by rw [q2 i hi, hs i hi], fun c h => by rw [q3 c h, hc c h]⟩
    refine jn_i (fun J => ∀ z', z' 0 27 = (if bst U D (j + 1) = 30 then -5 else (bst U D (j + 1) : Int)) → (∀ i, i ≠ 27 → z' 0 i = z3 0 i) → (∀ c, c ≠ 0 → z' c = z3 c) → J z') (fun z' q1 q2 q3 => lt_i (hX' z' q1 q2 q3)) (fun J hJ => ?_)
    rw [Int.toNat_natCast, r1 j (by omega), r2 j (by omega)]
    refine w_if ⟨by omega, by omega⟩ (fun e => ?_) (fun e => ⟨ij, w_if ⟨by omega, by omega⟩ (fun e' => ?_) (fun e' => lt_i ?_)⟩)
    · rw [show bst U D (j + 1) = bst U D j by rw [bst, if_neg (fun q => q.1 (by omega))]] at hJ
      exact hJ z3 hB (fun _ _ => rfl) (fun _ _ => rfl)
    · rw [show bst U D (j + 1) = bst U D j by rw [bst, if_neg (fun q => q.2.1 (by omega))]] at hJ
      exact hJ z3 hB (fun _ _ => rfl) (fun _ _ => rfl)
    have yes : (bst U D j = 30 ∨ U j + D j < U (bst U D j) + D (bst U D j) ∨ (U j + D j = U (bst U D j) + D (bst U D j) ∧ U j < U (bst U D j))) → J (kup z3 0 27 j) := fun q => by
      rw [show bst U D (j + 1) = j by rw [bst, if_pos ⟨by omega, by omega, q⟩]] at hJ
      refine hJ _ ?_ (fun i hi => kup_n (fun q => hi q.2)) (fun c h => by funext i; exact kup_c h)
      rw [kup_eq, if_neg (by omega)]
    have no : ¬ (bst U D j = 30 ∨ U j + D j < U (bst U D j) + D (bst U D j) ∨ (U j + D j = U (bst U D j) + D (bst U D j) ∧ U j < U (bst U D j))) → J (kup z3 0 27 (z3 0 27)) := fun q => by
      rw [show bst U D (j + 1) = bst U D j by rw [bst, if_neg (fun r => q r.2.2)]] at hJ
      exact hJ _ (by rw [kup_eq]; exact hB) (fun i hi => kup_n (fun q => hi q.2)) (fun c h => by funext i; exact kup_c h)
    refine jn_i (fun J13 => ∀ v : Int, ((v = 1 ∧ (bst U D j = 30 ∨ U j + D j < U (bst U D j) + D (bst U D j) ∨ (U j + D j = U (bst U D j) + D (bst U D j) ∧ U j < U (bst U D j)))) ∨ (v = 0 ∧ ¬ (bst U D j = 30 ∨ U j + D j < U (bst U D j) + D (bst U D j) ∨ (U j + D j = U (bst U D j) + D (bst U D j) ∧ U j < U (bst U D j))))) → J13 v) (fun v hv => ?_) (fun J13 h13 => ?_)
    · rcases hv with ⟨rfl, q⟩ | ⟨rfl, q⟩
      · exact w_t rg1 (hp_i (yes q))
      · exact w_f rg0 (hp_i (no q))
    refine jn_i (fun (J16 : Prop) => (bst U D j = 30 ∨ U j + D j < U (bst U D j) + D (bst U D j) ∨ (U j + D j = U (bst U D j) + D (bst U D j) ∧ U j < U (bst U D j))) → J16) (fun q => lt_i (h13 1 (Or.inl ⟨rfl, q⟩))) (fun J16 h16 => ?_)
    rcases bst_ok (U := U) (D := D) j (by omega) with q | ⟨q1, q2, q3⟩
    · rw [if_pos q] at hB
      rw [hB]
      exact ⟨⟨by decide, by decide⟩, by rw [if_pos (by decide)]; exact h16 (Or.inl q)⟩
    · rw [if_neg (by omega)] at hB
      have w1 := oU (bst U D j)
      have w2 := oD (bst U D j)
      rw [hB]
      have ic : inb ((bst U D j : Nat) : Int) 30 := ⟨by omega, by omega⟩
      rw [Int.toNat_natCast, r1 (bst U D j) (by omega), r2 (bst U D j) (by omega)]
      refine w_if ⟨by omega, by omega⟩ (fun e => absurd e (by omega)) (fun _ => ⟨ij, ij, ic, ic, w_if2 ⟨by omega, by omega⟩ ⟨by omega, by omega⟩ (fun c => h16 (Or.inr (Or.inl (by omega)))) (fun c => ⟨ij, ij, ic, ic, ?_⟩)⟩)
      refine jn_i (fun (J18 : Prop) => ¬ (bst U D j = 30 ∨ U j + D j < U (bst U D j) + D (bst U D j) ∨ (U j + D j = U (bst U D j) + D (bst U D j) ∧ U j < U (bst U D j))) → J18) (fun q => lt_i (h13 0 (Or.inr ⟨rfl, q⟩))) (fun J18 h18 => w_if2 ⟨by omega, by omega⟩ ⟨by omega, by omega⟩ (fun d => ⟨ij, ic, w_if2 ⟨by omega, by omega⟩ ⟨by omega, by omega⟩ (fun f => h18 (fun q => by omega)) (fun f => h16 (Or.inr (Or.inr ⟨by omega, by omega⟩)))⟩) (fun d => h18 (fun q => by omega)))
  · obtain ⟨hB, hs, hc⟩ := hI
    have e1 : z3 1 0 = n := by rw [hc 1 (by decide), f2 1 (by decide), f1 1 (by decide)]; exact h0
    have done : ∀ v : Int, v = (if bst U D 30 = 30 then 0 else 1) → K v z3 := fun v hv => k v z3 hv ⟨by rw [eb]; exact hB, fun p hp => by rw [hc 13 (by decide)]; exact A1 p hp, fun p hp => by rw [hc 14 (by decide)]; exact a2 p hp⟩ (fun i hi => by rw [hs i hi, f2 0 (by decide), f1 0 (by decide)]) (fun c q0 q1 q2 => by rw [hc c q0, f2 c q2, f1 c q1])
    refine w_if2 ⟨by omega, by omega⟩ (by rw [e1]; constructor <;> omega) (fun _ => ?_) (fun e => absurd e (by rw [e1]; omega))
    rw [eb] at done
    rcases bst_ok (U := U) (D := D) n hn with q | ⟨q1, q2, q3⟩
    · rw [if_pos q] at hB
      rw [hB]
      exact ⟨⟨by decide, by decide⟩, by rw [if_pos (by decide)]; exact done 0 (by rw [if_pos q])⟩
    · rw [if_neg (by omega)] at hB
      rw [hB]
      exact ⟨⟨by omega, by omega⟩, by rw [if_neg (by omega)]; exact done 1 (by rw [if_neg (by omega)])⟩
