/-! sets of people, told by both -/
def setS (P : Nat → Bool) : Nat → Nat
  | 0 => 0
  | k + 1 => if P k = true then setS P k ||| 2 ^ k else setS P k
theorem setS_lt {P : Nat → Bool} : ∀ k, k ≤ 30 → setS P k < 1073741824
  | 0, _ => (by decide : 0 < 1073741824)
  | k + 1, hk => by
    have ih := setS_lt (P := P) k (by omega)
    unfold setS
    split
    · exact or_lt ih (pow_lt30 (by omega))
    · exact ih
theorem setS_up {P : Nat → Bool} {n : Nat} (h : ∀ p, n ≤ p → P p = false) : ∀ d, setS P (n + d) = setS P n
  | 0 => rfl
  | d + 1 => by rw [show n + (d + 1) = (n + d) + 1 by omega, setS, h (n + d) (by omega), if_neg (by decide), setS_up h d]
theorem setS_30 {P : Nat → Bool} {n : Nat} (hn : n ≤ 30) (h : ∀ p, n ≤ p → P p = false) : setS P 30 = setS P n := by
  have := setS_up h (30 - n)
  rwa [show n + (30 - n) = 30 by omega] at this
theorem setS_cg {P Q : Nat → Bool} : ∀ k, (∀ p, p < k → P p = Q p) → setS P k = setS Q k
  | 0, _ => rfl
  | k + 1, h => by rw [setS, setS, h k (by omega), setS_cg k (fun p hp => h p (by omega))]
theorem w_X1_holders {r v : Nat} {m : Nat → Nat} {z : Hp} {K : Int → Prop} (hr : Row z r m) (hb : ∀ p, p < 30 → m p < 1073741824) (hv : v < 30) (k : K (setS (fun p => (m p).testBit v) 30 : Nat)) : cal_X1_holders r v z K := by
  show LQ2 _ 0 0
  refine LQ2_for 30 (fun j a => a = ((setS (fun p => (m p).testBit v) j : Nat) : Int)) 0 rfl (by omega) rfl (fun X j a hj ha hX => ?_) (fun X a ha => ?_)
  · have sl := setS_lt (P := fun p => (m p).testBit v) j (by omega)
    refine w_if ⟨by omega, by omega⟩ (fun e => absurd e (by omega)) (fun _ => ⟨⟨by omega, by omega⟩, ?_⟩)
    rw [Int.toNat_natCast, hr j hj]
    refine w_X1_has (hb j hj) (by omega) (fun h => jn_i (fun J => J ((setS (fun p => (m p).testBit v) (j + 1) : Nat) : Int)) (lt_i (hX _ rfl)) (fun J hJ => w_t rg1 (lt_i ?_))) (fun h => jn_i (fun J => J ((setS (fun p => (m p).testBit v) (j + 1) : Nat) : Int)) (lt_i (hX _ rfl)) (fun J hJ => w_f rg0 ?_))
    · rw [setS, if_pos h] at hJ
      rw [ha, ior_shl sl hj]; exact hJ
    · rw [setS, if_neg (by rw [h]; decide)] at hJ
      rw [ha]; exact hJ
  · subst ha
    exact w_if ⟨by omega, by omega⟩ (fun _ => k) (fun e => absurd e (by omega))
theorem w_X10_childrenOf {v n : Nat} {mo fa : Nat → Nat} {z : Hp} {K : Int → Prop} (hn : n ≤ 30) (h0 : z 1 0 = n) (h7 : Row z 7 mo) (h8 : Row z 8 fa) (hm : ∀ p, p < 30 → mo p < 1073741824) (hf : ∀ p, p < 30 → fa p < 1073741824) (hv : v < 30) (k : K (setS (fun p => (mo p ||| fa p).testBit v) n : Nat)) : cal_X10_childrenOf v z K := by
  show LQ2 _ 0 0
  refine LQ2_for n (fun j a => a = ((setS (fun p => (mo p ||| fa p).testBit v) j : Nat) : Int)) 0 rfl (by omega) rfl (fun X j a hj ha hX => ?_) (fun X a ha => ?_)
  · have sl := setS_lt (P := fun p => (mo p ||| fa p).testBit v) j (by omega)
    refine w_if2 ⟨by omega, by omega⟩ (by rw [h0]; constructor <;> omega) (fun e => absurd e (by rw [h0]; omega)) (fun _ => ⟨⟨by omega, by omega⟩, ⟨by omega, by omega⟩, ?_⟩)
    rw [Int.toNat_natCast, h7 j (by omega), h8 j (by omega), ior_n (by have := hm j (by omega); omega) (by have := hf j (by omega); omega)]
    refine w_X10_has (or_lt (hm j (by omega)) (hf j (by omega))) (by omega) (fun h => jn_i (fun J => J ((setS (fun p => (mo p ||| fa p).testBit v) (j + 1) : Nat) : Int)) (lt_i (hX _ rfl)) (fun J hJ => w_t rg1 (lt_i ?_))) (fun h => jn_i (fun J => J ((setS (fun p => (mo p ||| fa p).testBit v) (j + 1) : Nat) : Int)) (lt_i (hX _ rfl)) (fun J hJ => w_f rg0 (lt_i ?_)))
    · rw [setS, if_pos h] at hJ
      rw [ha, ior_shl sl (by omega)]; exact hJ
    · rw [setS, if_neg (by rw [h]; decide)] at hJ
      rw [ha, ior_z (by omega)]; exact hJ
  · subst ha
    exact w_if2 ⟨by omega, by omega⟩ (by rw [h0]; constructor <;> omega) (fun _ => k) (fun e => absurd e (by rw [h0]; omega))
theorem w_X1_siblings {t v : Nat} {pr : Nat → Nat} {z : Hp} {K : Int → Prop} (hr : Row z (t + 6) pr) (hb : ∀ p, p < 30 → pr p < 1073741824) (hv : v < 30) (k : K (setS (fun p => decide (p ≠ v ∧ pr p &&& pr v ≠ 0)) 30 : Nat)) : cal_X1_siblings t v z K := by
  show LQ2 _ 0 0
  refine LQ2_for 30 (fun j a => a = ((setS (fun p => decide (p ≠ v ∧ pr p &&& pr v ≠ 0)) j : Nat) : Int)) 0 rfl (by omega) rfl (fun X j a hj ha hX => ?_) (fun X a ha => ?_)
  · have sl := setS_lt (P := fun p => decide (p ≠ v ∧ pr p &&& pr v ≠ 0)) j (by omega)
    have bj := hb j hj
    have bv := hb v hv
    have al : pr j &&& pr v < 1073741824 := Nat.and_lt_two_pow (n := 30) _ bv
    refine w_if ⟨by omega, by omega⟩ (fun e => absurd e (by omega)) (fun _ => jn_i (fun J => J ((setS (fun p => decide (p ≠ v ∧ pr p &&& pr v ≠ 0)) (j + 1) : Nat) : Int)) (lt_i (hX _ rfl)) (fun J hJ => ?_))
    rw [setS] at hJ
    rw [Int.toNat_natCast, Int.toNat_natCast, hr j hj, hr v hv, iand_n (by omega) (by omega)]
    refine w_if2 ⟨by omega, by omega⟩ ⟨by omega, by omega⟩ (fun e => ?_) (fun e => ⟨⟨by omega, by omega⟩, ⟨by omega, by omega⟩, ⟨by omega, by omega⟩, w_ite (fun e' => ?_) (fun e' => lt_i ?_)⟩)
    · rw [if_neg (by rw [decide_eq_true_eq]; exact fun q => q.1 (by omega))] at hJ
      rw [ha]; exact hJ
    · rw [if_neg (by rw [decide_eq_true_eq]; exact fun q => q.2 (by omega))] at hJ
      rw [ha]; exact hJ
    · rw [if_pos (by rw [decide_eq_true_eq]; exact ⟨by omega, by omega⟩)] at hJ
      rw [ha, ior_shl sl hj]; exact hJ
  · subst ha
    exact w_if ⟨by omega, by omega⟩ (fun _ => k) (fun e => absurd e (by omega))
theorem w_X1_least {s : Nat} {z : Hp} {K : Int → Prop} (hs : s < 1073741824) (k : ∀ v, IsFst 30 (fun i => s.testBit i = true) v → K v) : cal_X1_least s z K := by
  show LQ1 _ 0
  refine LQ1_for 30 (fun j => ∀ q, q < j → ¬ s.testBit q = true) 0 rfl (by omega) (fun q hq => absurd hq (by omega)) (fun X j hj hI hX => ?_) (fun X hI => ?_)
  · refine w_if ⟨by omega, by omega⟩ (fun e => absurd e (by omega)) (fun _ => w_X1_has hs (by omega) (fun h => w_t rg1 (k _ (Or.inl ⟨j, hj, rfl, h, hI⟩))) (fun h => w_f rg0 (lt_i (hX (fun q hq => ?_)))))
    by_cases e : q = j
    · subst e; rw [h]; decide
    · exact hI q (by omega)
  · exact w_if ⟨by omega, by omega⟩ (fun _ => k _ (Or.inr ⟨rfl, hI⟩)) (fun e => absurd e (by omega))
theorem w_X10_least {s : Nat} {z : Hp} {K : Int → Prop} (hs : s < 1073741824) (k : ∀ v, IsFst 30 (fun i => s.testBit i = true) v → K v) : cal_X10_least s z K := by
  show LQ1 _ 0
  refine LQ1_for 30 (fun j => ∀ q, q < j → ¬ s.testBit q = true) 0 rfl (by omega) (fun q hq => absurd hq (by omega)) (fun X j hj hI hX => ?_) (fun X hI => ?_)
  · refine w_if ⟨by omega, by omega⟩ (fun e => absurd e (by omega)) (fun _ => w_X10_has hs (by omega) (fun h => w_t rg1 (k _ (Or.inl ⟨j, hj, rfl, h, hI⟩))) (fun h => w_f rg0 (lt_i (hX (fun q hq => ?_)))))
    by_cases e : q = j
    · subst e; rw [h]; decide
    · exact hI q (by omega)
  · exact w_if ⟨by omega, by omega⟩ (fun _ => k _ (Or.inr ⟨rfl, hI⟩)) (fun e => absurd e (by omega))
theorem sp_live {S : Nat → Int} {g : Nat → Nat} {k p : Nat} (h : fV S k = 1 ∧ fS S k = 4) : spL S g (lvK S (k + 1)) p = spL S g (lvK S k) p ||| ((if g (fA S k) = p then 2 ^ g (fB S k).toNat else 0) ||| (if g (fB S k).toNat = p then 2 ^ g (fA S k) else 0)) := by
  rw [lvK_succ, if_pos (show isLv S k = true from decide_eq_true h.1), spL_snoc]
  unfold spst
  rw [if_pos h.2, ← Nat.or_assoc]
theorem sp_dead {S : Nat → Int} {g : Nat → Nat} {k : Nat} (h : ¬ (fV S k = 1 ∧ fS S k = 4)) : spL S g (lvK S (k + 1)) = spL S g (lvK S k) := by
  rw [lvK_succ]
  by_cases q : isLv S k = true
  · rw [if_pos q, spL_snoc]
    unfold spst
    rw [if_neg (fun q5 => h ⟨of_decide_eq_true q, q5⟩)]
  · rw [if_neg q, List.append_nil]
theorem mg_live {S : Nat → Int} {g : Nat → Nat} {k p : Nat} (h : fV S k = 1 ∧ fS S k = 4) : mgL S g (lvK S (k + 1)) p = mgL S g (lvK S k) p + (if g (fA S k) = p ∨ g (fB S k).toNat = p then 1 else 0) := by
  rw [lvK_succ, if_pos (show isLv S k = true from decide_eq_true h.1), mgL_snoc]
  unfold mgst
  rw [if_pos h.2]
theorem mg_dead {S : Nat → Int} {g : Nat → Nat} {k : Nat} (h : ¬ (fV S k = 1 ∧ fS S k = 4)) : mgL S g (lvK S (k + 1)) = mgL S g (lvK S k) := by
  rw [lvK_succ]
  by_cases q : isLv S k = true
  · rw [if_pos q, mgL_snoc]
    unfold mgst
    rw [if_neg (fun q5 => h ⟨of_decide_eq_true q, q5⟩)]
  · rw [if_neg q, List.append_nil]
theorem mgL_le (S : Nat → Int) (g : Nat → Nat) (p : Nat) : ∀ k, mgL S g (lvK S k) p ≤ k
  | 0 => Nat.le_refl _
  | k + 1 => by
    have ih := mgL_le S g p k
    by_cases c : fV S k = 1 ∧ fS S k = 4
    · rw [mg_live c]; split <;> omega
    · rw [mg_dead c]; omega
theorem w_X10_marriedTo {p : Nat} {S : Nat → Int} {g : Nat → Nat} {z : Hp} {K : Int → Prop} (h : SOk 60 S) (hS : z 1 = S) (h6 : Row z 6 g) (hgg : gGood (sN S) g) (hp : p < 30) (k : K (spL S g (lv S) p : Nat)) : cal_X10_marriedTo p z K := by
  have hn := h.n.2
  have ht := h.t
  show LQ2 _ 0 0
  refine LQ2_for (sT S) (fun j a => a = ((spL S g (lvK S j) p : Nat) : Int)) 0 rfl (by omega) rfl (fun X j a hj ha hX => ?_) (fun X a ha => ?_)
  · have ho := h.2.2.2 j hj
    have sl := p30 hn (spL_ok (S := S) hgg (lvK S j) (lv_ok h (by omega)) p)
    have fa := hgg.lt ho.a
    refine w_if2 ⟨by omega, by omega⟩ (by rw [hS]; constructor <;> omega) (fun e => absurd e (by rw [hS]; omega)) (fun _ => w_X10_isLive_v (s := 4) (by omega) ⟨by decide, by decide⟩ (by rw [hS]; exact ho.rgs.2) (by rw [hS]; exact ho.rgs.1) (fun v hv => ?_))
    rw [hS] at hv
    refine jn_i (fun J => J ((spL S g (lvK S (j + 1)) p : Nat) : Int)) (lt_i (hX _ rfl)) (fun J hJ => ?_)
    rcases hv with ⟨rfl, hv⟩ | ⟨rfl, hv⟩
    · have two : isTwo (fS S j) := isTwo_of (by omega)
      have hb := ho.b two
      have hgb := hgg.lt hb
      have haa := ho.a
      rw [sp_live hv] at hJ
      refine w_t rg1 (w_X10_told (w := 1) (by omega) ?_)
      rw [hS, ho.at1]
      refine ⟨⟨by omega, by omega⟩, lt_i (w_X10_told (w := 2) (by omega) ?_)⟩
      rw [hS, ho.at2 two]
      refine ⟨⟨by omega, by omega⟩, lt_i ?_⟩
      rw [Int.toNat_natCast, Int.toNat_natCast, h6 _ (by omega), h6 _ (by omega)]
      have pa := pow_lt30 (show g (fA S j) < 30 by omega)
      have pb := pow_lt30 (show g (fB S j).toNat < 30 by omega)
      generalize g (fA S j) = a' at *
      generalize g (fB S j).toNat = b' at *
      have sa : ishl 1 (a' : Int) = ((2 ^ a' : Nat) : Int) := ishl_1 a' (by omega)
      have sb : ishl 1 (b' : Int) = ((2 ^ b' : Nat) : Int) := ishl_1 b' (by omega)
      rw [sa, sb, ha]
      have z0 : (0 : Int) = ((0 : Nat) : Int) := rfl
      refine w_if2 ⟨by omega, by omega⟩ ⟨by omega, by omega⟩ (fun e1 => w_if2 ⟨by omega, by omega⟩ ⟨by omega, by omega⟩ (fun e2 => lt_i ?_) (fun e2 => lt_i ?_)) (fun e1 => w_if2 ⟨by omega, by omega⟩ ⟨by omega, by omega⟩ (fun e2 => lt_i ?_) (fun e2 => lt_i ?_))
      · rw [if_pos (by omega), if_pos (by omega)] at hJ
        rw [ior_n (by omega) (by omega), ior_n (by omega) (by have := or_lt pb pa; omega)]; exact hJ
      · rw [if_pos (by omega), if_neg (by omega)] at hJ
        rw [z0, ior_n (by omega) (by omega), ior_n (by omega) (by have := or_lt pb (show 0 < 1073741824 by decide); omega)]; exact hJ
      · rw [if_neg (by omega), if_pos (by omega)] at hJ
        rw [z0, ior_n (by omega) (by omega), ior_n (by omega) (by have := or_lt (show 0 < 1073741824 by decide) pa; omega)]; exact hJ
      · rw [if_neg (by omega), if_neg (by omega)] at hJ
        rw [z0, ior_n (by omega) (by omega), ior_n (by omega) (by decide)]; exact hJ
    · rw [sp_dead hv] at hJ
      refine w_f rg0 ?_
      rw [ha]; exact hJ
  · subst ha
    exact w_if2 ⟨by omega, by omega⟩ (by rw [hS]; constructor <;> omega) (fun _ => k) (fun e => absurd e (by rw [hS]; omega))
theorem w_X10_marriages {p : Nat} {S : Nat → Int} {g : Nat → Nat} {z : Hp} {K : Int → Prop} (h : SOk 60 S) (hS : z 1 = S) (h6 : Row z 6 g) (hgg : gGood (sN S) g) (hp : p < 30) (k : K (mgL S g (lv S) p : Nat)) : cal_X10_marriages p z K := by
  have hn := h.n.2
  have ht := h.t
  show LQ2 _ 0 0
  refine LQ2_for (sT S) (fun j a => a = ((mgL S g (lvK S j) p : Nat) : Int)) 0 rfl (by omega) rfl (fun X j a hj ha hX => ?_) (fun X a ha => ?_)
  · have ho := h.2.2.2 j hj
    have fa := hgg.lt ho.a
    refine w_if2 ⟨by omega, by omega⟩ (by rw [hS]; constructor <;> omega) (fun e => absurd e (by rw [hS]; omega)) (fun _ => w_X10_isLive_v (s := 4) (by omega) ⟨by decide, by decide⟩ (by rw [hS]; exact ho.rgs.2) (by rw [hS]; exact ho.rgs.1) (fun v hv => ?_))
    rw [hS] at hv
    refine jn_i (fun J => J ((mgL S g (lvK S (j + 1)) p : Nat) : Int)) (lt_i (hX _ rfl)) (fun J hJ => ?_)
    rcases hv with ⟨rfl, hv⟩ | ⟨rfl, hv⟩
    · have two : isTwo (fS S j) := isTwo_of (by omega)
      have hb := ho.b two
      have hgb := hgg.lt hb
      have haa := ho.a
      rw [mg_live hv] at hJ
      refine w_t rg1 (w_X10_told (w := 1) (by omega) ?_)
      rw [hS, ho.at1, Int.toNat_natCast, h6 _ (by omega)]
      refine ⟨⟨by omega, by omega⟩, w_if2 ⟨by omega, by omega⟩ ⟨by omega, by omega⟩ (fun e1 => lt_i ?_) (fun e1 => w_X10_told (w := 2) (by omega) ?_)⟩
      · rw [if_pos (Or.inl (by omega))] at hJ
        rw [ha]; exact hJ
      · rw [hS, ho.at2 two, Int.toNat_natCast, h6 _ (by omega)]
        refine ⟨⟨by omega, by omega⟩, w_if2 ⟨by omega, by omega⟩ ⟨by omega, by omega⟩ (fun e2 => lt_i ?_) (fun e2 => lt_i ?_)⟩
        · rw [if_pos (Or.inr (by omega))] at hJ
          rw [ha]; exact hJ
        · rw [if_neg (fun q => q.elim (fun q => e1 (by omega)) (fun q => e2 (by omega)))] at hJ
          rw [ha]; exact hJ
    · rw [mg_dead hv] at hJ
      refine w_f rg0 (lt_i ?_)
      rw [ha, Int.add_zero]; exact hJ
  · subst ha
    exact w_if2 ⟨by omega, by omega⟩ (by rw [hS]; constructor <;> omega) (fun _ => k) (fun e => absurd e (by rw [hS]; omega))
