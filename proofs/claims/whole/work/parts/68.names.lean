/-! names -/
def NLen (S : Nat → Int) (p l : Nat) : Prop := 1 ≤ l ∧ l ≤ 7 ∧ (∀ i, i < l → 97 ≤ pL S p i ∧ pL S p i ≤ 122) ∧ (∀ i, l ≤ i → i < 7 → pL S p i = 0)
theorem NLen.uq {S : Nat → Int} {p l l' : Nat} (h : NLen S p l) (h' : NLen S p l') : l = l' := by
  obtain ⟨a1, a2, a3, a4⟩ := h
  obtain ⟨b1, b2, b3, b4⟩ := h'
  rcases Nat.lt_trichotomy l l' with q | q | q
  · have x := b3 l q
    have y := a4 l (Nat.le_refl _) (by omega)
    omega
  · exact q
  · have x := a3 l' q
    have y := b4 l' (Nat.le_refl _) (by omega)
    omega
theorem PeC.len {z : Hp} {r : Nat} {S : Nat → Int} {p : Nat} (h : PeC z r S p) : ∃ l : Nat, z (r + 32) p = l ∧ NLen S p l ∧ ∀ i, i < l → z (r + 2 + p) i = pL S p i := by
  obtain ⟨_, l, a, b, c, d, e⟩ := h
  exact ⟨l, a, ⟨b, c, fun i hi => (d i hi).2, e⟩, fun i hi => (d i hi).1⟩
theorem pL_bd {S : Nat → Int} {p i : Nat} {l : Nat} (h : NLen S p l) (hi : i < 7) : 0 ≤ pL S p i ∧ pL S p i ≤ 122 := by
  by_cases c : i < l
  · have := h.2.2.1 i c; omega
  · have := h.2.2.2 i (by omega) hi; omega
theorem w_letterOf {p i : Nat} {z : Hp} {S : Nat → Int} {K : Int → Prop} (hS : z 1 = S) (hp : p < 30) (hi : i < 7) (k : K (pL S p i)) : cal_X10_letterOf p i z K := by
  refine ⟨⟨by omega, by omega⟩, ?_⟩
  rw [show (2 + 8 * (p : Int) + (i : Int)).toNat = 2 + 8 * p + i by omega, hS]
  exact k
theorem w_X10_lengthOf {p l : Nat} {z : Hp} {S : Nat → Int} {K : Int → Prop} (hS : z 1 = S) (hp : p < 30) (h : NLen S p l) (k : K (l : Nat)) : cal_X10_lengthOf p z K := by
  have h7 := h.2.1
  show LQ1 _ 0
  refine LQ1_for l (fun _ => True) 0 rfl (by omega) trivial (fun X j hj _ hX => ?_) (fun X _ => ?_)
  · have := h.2.2.1 j hj
    exact w_if ⟨by omega, by omega⟩ (fun e => absurd e (by omega)) (fun _ => w_letterOf hS hp (by omega) (w_if ⟨by omega, by omega⟩ (fun e => absurd e (by omega)) (fun _ => lt_i (hX trivial))))
  · refine w_if ⟨by omega, by omega⟩ (fun _ => k) (fun e => w_letterOf hS hp (by omega) ?_)
    have := h.2.2.2 l (Nat.le_refl _) (by omega)
    rw [this]
    exact w_if rg0 (fun _ => k) (fun e => absurd (Int.le_refl 0) e)
theorem nlen_of {S : Nat → Int} (h : SOk 60 S) {p : Nat} (hp : p < sN S) : ∃ l, NLen S p l := by
  obtain ⟨⟨l, a, b, c, d⟩, _⟩ := h.2.2.1 p hp
  exact ⟨l, a, b, c, d⟩
theorem inv_op9 : op9 Inv := by
  intro a1 a2 zC zM ha hb h
  have h1 := h.1
  have hn := h1.n
  have b0 := h.2.1.1
  obtain ⟨r0, r1, r2, r3⟩ := rgS h1
  unfold cal_X9_name
  refine w_X0_isPerson (t := 1) ha (by rw [b0]; exact r0) (fun q => w_t rg1 ?_) (fun q => w_f rg0 ?_)
  rotate_left
  · rw [b0] at q
    exact w_X10_isPerson ha r2 (fun r => absurd r q) (fun _ => w_f rg0 ⟨rfl, h⟩)
  rw [b0] at q
  obtain ⟨p, rfl⟩ : ∃ p : Nat, a1 = p := ⟨a1.toNat, by omega⟩
  have hp : p < sN (zM 1) := by omega
  obtain ⟨l, k1, k2, k3⟩ := (h.2.1.2.2.2.2.1 p hp).len
  have k1 : zC 33 p = l := k1
  have l7 := k2.2.1
  have ib : inb (p : Int) 30 := ⟨by omega, by omega⟩
  rw [Int.toNat_natCast, k1]
  have go : ∀ v : Int, (a2 < -1 ∨ (l : Int) ≤ a2 → v = -1) → (a2 = -1 → v = l) → (∀ i : Nat, a2 = i → i < l → v = pL (zM 1) p i) → cal_X10_name p a2 zM (fun r' => v = r' ∧ Inv zC zM) := fun v c1 c2 c3 => by
    refine w_X10_isPerson ha r2 (fun _ => w_t rg1 (w_if hb (fun e => ⟨c1 (Or.inl e), h⟩) (fun e => w_X10_lengthOf rfl (by omega) k2 (w_if2 hb ⟨by omega, by omega⟩ (fun e2 => w_if hb (fun e3 => ?_) (fun e3 => w_X10_lengthOf rfl (by omega) k2 ⟨c2 (by omega), h⟩)) (fun e2 => ⟨c1 (Or.inr (by omega)), h⟩))))) (fun r => absurd q r)
    obtain ⟨i, rfl⟩ : ∃ i : Nat, a2 = i := ⟨a2.toNat, by omega⟩
    exact w_letterOf rfl (by omega) (by omega) ⟨c3 i rfl (by omega), h⟩
  refine ⟨ib, lt_i (w_if hb (fun e => go _ (fun q => by omega) (fun _ => rfl) (fun i hi _ => by omega)) (fun e => w_if hb (fun e2 => go _ (fun _ => rfl) (fun q => absurd q e) (fun i hi _ => by omega)) (fun e2 => w_if2 hb ⟨by omega, by omega⟩ (fun e3 => go _ (fun _ => rfl) (fun q => absurd q e) (fun i hi _ => by omega)) (fun e3 => ⟨ib, ⟨by omega, by omega⟩, ?_⟩))))⟩
  obtain ⟨i, rfl⟩ : ∃ i : Nat, a2 = i := ⟨a2.toNat, by omega⟩
  refine go _ (fun q => by omega) (fun q => by omega) (fun i' hi' hl => ?_)
  have : i' = i := by omega
  subst this
  rw [Int.toNat_natCast]
  exact k3 i' hl
/-! two names compared -/
def cq (S : Nat → Int) (p q : Nat) : Nat → Int
  | 0 => 0
  | k + 1 => if pL S p (6 - k) = pL S q (6 - k) then cq S p q k else pL S p (6 - k) - pL S q (6 - k)
theorem cq_at {S : Nat → Int} {p q j : Nat} (hj : j < 7) : cq S p q (7 - j) = if pL S p j = pL S q j then cq S p q (7 - (j + 1)) else pL S p j - pL S q j := by
  rw [show 7 - j = (7 - (j + 1)) + 1 by omega, cq, show 6 - (7 - (j + 1)) = j by omega]
theorem w_X10_compares {p q lp lq : Nat} {z : Hp} {S : Nat → Int} {K : Int → Prop} (hS : z 1 = S) (hp : p < 30) (hq : q < 30) (hlp : NLen S p lp) (hlq : NLen S q lq) (k : K (cq S p q 7)) : cal_X10_compares p q z K := by
  show LQ1 _ 0
  refine LQ1_for 7 (fun j => cq S p q 7 = cq S p q (7 - j)) 0 rfl (by omega) rfl (fun X j hj hI hX => ?_) (fun X hI => ?_)
  · have b1 := pL_bd hlp hj
    have b2 := pL_bd hlq hj
    rw [cq_at hj] at hI
    refine w_if ⟨by omega, by omega⟩ (fun e => absurd e (by omega)) (fun _ => w_letterOf hS hp hj (w_letterOf hS hq hj (w_if2 ⟨by omega, by omega⟩ ⟨by omega, by omega⟩ (fun e => lt_i (hX ?_)) (fun e => w_letterOf hS hp hj (w_letterOf hS hq hj ?_)))))
    · rw [if_pos e] at hI; exact hI
    · rw [if_neg e] at hI; rw [← hI]; exact k
  · refine w_if ⟨by omega, by omega⟩ (fun _ => ?_) (fun e => absurd e (by omega))
    rw [hI] at k
    exact k
def SgEq (a b : Int) : Prop := (a < 0 ↔ b < 0) ∧ (a = 0 ↔ b = 0) ∧ rg a
theorem cq_z {S : Nat → Int} {p q : Nat} : ∀ k, (∀ i, 7 - k ≤ i → i < 7 → pL S p i = pL S q i) → k ≤ 7 → cq S p q k = 0
  | 0, _, _ => rfl
  | k + 1, h, hk => by rw [cq, if_pos (h (6 - k) (by omega) (by omega))]; exact cq_z k (fun i a b => h i (by omega) b) (by omega)
theorem w_X0_compareNames {t p q lp lq : Nat} {z : Hp} {S : Nat → Int} {K : Int → Prop} (hp : p < 30) (hq : q < 30) (hlp : NLen S p lp) (hlq : NLen S q lq) (z1 : z (t + 32) p = lp) (z2 : z (t + 32) q = lq) (n1 : ∀ i, i < lp → z (t + 2 + p) i = pL S p i) (n2 : ∀ i, i < lq → z (t + 2 + q) i = pL S q i) (k : ∀ v, SgEq v (cq S p q 7) → K v) : cal_X0_compareNames t p q z K := by
  have e2 : ∀ p, t + 1 + 1 + p = t + 2 + p := fun _ => rfl
  have ip : inb (p : Int) 30 := ⟨by omega, by omega⟩
  have iq : inb (q : Int) 30 := ⟨by omega, by omega⟩
  have l1 := hlp.2.1
  have l2 := hlq.2.1
  show LQ1 _ 0
  refine LQ1_for (min lp lq) (fun j => cq S p q 7 = cq S p q (7 - j)) 0 rfl (by omega) rfl (fun X j hj hI hX => ?_) (fun X hI => ?_)
  · have a1 := hlp.2.2.1 j (by omega)
    have a2 := hlq.2.2.1 j (by omega)
    rw [cq_at (by omega)] at hI
    refine ⟨ip, jn_i (fun _ => True) trivial (fun J _ => ?_)⟩
    rw [Int.toNat_natCast, Int.toNat_natCast, Int.toNat_natCast, z1, z2, e2, e2, n1 j (by omega), n2 j (by omega)]
    refine w_if2 ⟨by omega, by omega⟩ ⟨by omega, by omega⟩ (fun e => absurd e (by omega)) (fun _ => ⟨iq, w_if2 ⟨by omega, by omega⟩ ⟨by omega, by omega⟩ (fun e => absurd e (by omega)) (fun _ => ⟨ip, ⟨by omega, by omega⟩, iq, ⟨by omega, by omega⟩, w_if2 ⟨by omega, by omega⟩ ⟨by omega, by omega⟩ (fun e => lt_i (hX ?_)) (fun e => ⟨ip, ⟨by omega, by omega⟩, iq, ⟨by omega, by omega⟩, k _ ?_⟩)⟩)⟩)
    · rw [if_pos e] at hI; exact hI
    · rw [if_neg e] at hI; rw [hI]; exact ⟨Iff.rfl, Iff.rfl, by omega, by omega⟩
  · refine ⟨ip, jn_i (fun (J : Prop) => J) ⟨ip, iq, ?_⟩ (fun J hJ => ?_)⟩
    · rw [Int.toNat_natCast, Int.toNat_natCast, z1, z2]
      refine k _ ?_
      rw [hI]
      rcases Nat.lt_trichotomy lp lq with c | c | c
      · rw [show min lp lq = lp by omega, cq_at (by omega)]
        have b1 := hlp.2.2.2 lp (Nat.le_refl _) (by omega)
        have b2 := hlq.2.2.1 lp c
        rw [if_neg (by omega)]
        exact ⟨⟨fun _ => by omega, fun _ => by omega⟩, ⟨fun _ => by omega, fun _ => by omega⟩, by omega, by omega⟩
      · subst c
        rw [show min lp lp = lp by omega, cq_z (7 - lp) (fun i a b => by rw [hlp.2.2.2 i (by omega) b, hlq.2.2.2 i (by omega) b]) (by omega)]
        exact ⟨⟨fun _ => by omega, fun _ => by omega⟩, ⟨fun _ => by omega, fun _ => by omega⟩, by omega, by omega⟩
      · rw [show min lp lq = lq by omega, cq_at (by omega)]
        have b1 := hlq.2.2.2 lq (Nat.le_refl _) (by omega)
        have b2 := hlp.2.2.1 lq c
        rw [if_neg (by omega)]
        exact ⟨⟨fun _ => by omega, fun _ => by omega⟩, ⟨fun _ => by omega, fun _ => by omega⟩, by omega, by omega⟩
    · rw [Int.toNat_natCast, Int.toNat_natCast, z1, z2]
      refine w_if2 ⟨by omega, by omega⟩ ⟨by omega, by omega⟩ (fun _ => hJ) (fun e => ⟨iq, w_if2 ⟨by omega, by omega⟩ ⟨by omega, by omega⟩ (fun _ => hJ) (fun e2 => absurd e2 (by omega))⟩)
/-- the class's comparing of the book's names -/
theorem w_cmp {zC : Hp} {S : Nat → Int} {p q : Nat} {K : Int → Prop} (h : SOk 60 S) (hb : ∀ p, p < sN S → PeC zC 1 S p) (hp : p < sN S) (hq : q < sN S) (k : ∀ v, SgEq v (cq S p q 7) → K v) : cal_X0_compareNames 1 p q zC K := by
  have hn := h.n.2
  obtain ⟨lp, a1, a2, a3⟩ := (hb p hp).len
  obtain ⟨lq, b1, b2, b3⟩ := (hb q hq).len
  exact w_X0_compareNames (by omega) (by omega) a2 b2 a1 b1 a3 b3 k
theorem w_cmpM {zM : Hp} {S : Nat → Int} {p q : Nat} {K : Int → Prop} (h : SOk 60 S) (hS : zM 1 = S) (hp : p < sN S) (hq : q < sN S) (k : rg (cq S p q 7) → K (cq S p q 7)) : cal_X10_compares p q zM K := by
  have hn := h.n.2
  obtain ⟨lp, a⟩ := nlen_of h hp
  obtain ⟨lq, b⟩ := nlen_of h hq
  refine w_X10_compares hS (by omega) (by omega) a b (k ?_)
  have gen : ∀ k, k ≤ 7 → -122 ≤ cq S p q k ∧ cq S p q k ≤ 122 := fun k => by
    induction k with
    | zero => intro _; show (-122 : Int) ≤ 0 ∧ (0 : Int) ≤ 122; decide
    | succ k ih =>
      intro hk
      have x := pL_bd (i := 6 - k) a (by omega)
      have y := pL_bd (i := 6 - k) b (by omega)
      rw [cq]
      split
      · exact ih (by omega)
      · omega
  have := gen 7 (Nat.le_refl _)
  constructor <;> omega
/-- how many stand ahead by name, of the first k -/
def plc (S : Nat → Int) (p : Nat) : Nat → Nat
  | 0 => 0
  | k + 1 => plc S p k + (if cq S k p 7 < 0 ∨ (cq S k p 7 = 0 ∧ k < p) then 1 else 0)
theorem plc_le (S : Nat → Int) (p : Nat) : ∀ k, plc S p k ≤ k
  | 0 => Nat.le_refl _
  | k + 1 => by have := plc_le S p k; unfold plc; split <;> omega
theorem inv_op11 : op11 Inv := by
  intro a1 zC zM ha h
  have h1 := h.1
  have hn := h1.n
  have b0 := h.2.1.1
  have bp := h.2.1.2.2.2.2.1
  obtain ⟨r0, r1, r2, r3⟩ := rgS h1
  have ref : ∀ v : Int, ((∃ p : Nat, p < sN (zM 1) ∧ v = p ∧ (plc (zM 1) p (sN (zM 1)) : Int) = a1 ∧ ∀ q, q < p → (plc (zM 1) q (sN (zM 1)) : Int) ≠ a1) ∨ (v = -1 ∧ ∀ p, p < sN (zM 1) → (plc (zM 1) p (sN (zM 1)) : Int) ≠ a1)) → cal_X10_byName a1 zM (fun r' => v = r' ∧ Inv zC zM) := fun v hv => by
    show LQ1 _ 0
    obtain ⟨N, hN, hpre, hend⟩ : ∃ N : Nat, N ≤ sN (zM 1) ∧ (∀ q, q < N → (plc (zM 1) q (sN (zM 1)) : Int) ≠ a1) ∧ ((N = sN (zM 1) ∧ v = -1) ∨ (N < sN (zM 1) ∧ v = N ∧ (plc (zM 1) N (sN (zM 1)) : Int) = a1)) := by
      rcases hv with ⟨p, a, b, c, d⟩ | ⟨a, b⟩
      · exact ⟨p, by omega, d, Or.inr ⟨a, b, c⟩⟩
      · exact ⟨sN (zM 1), Nat.le_refl _, b, Or.inl ⟨rfl, a⟩⟩
    have inner : ∀ (j : Nat) (K : Int → Prop), j < sN (zM 1) → K ((plc (zM 1) j (sN (zM 1)) : Nat) : Int) → LQ2 (fun X6 v7 v8 => rg v8 ∧ rg (zM 1 0) ∧ if (zM 1 0) ≤ v8 then K v7 else (cal_X10_compares v8 (j : Int) zM (fun v10 => jn (fun J12 : Int → Prop => rg v10 ∧ if v10 < 0 then (lt1 (v7 + 1) (fun v14 => J12 v14)) else (cal_X10_compares v8 (j : Int) zM (fun v15 => rg v15 ∧ if v15 = 0 then (rg v8 ∧ rg (j : Int) ∧ if (j : Int) ≤ v8 then (lt1 (v7 + 0) (fun v17 => J12 v17)) else (lt1 (v7 + 1) (fun v18 => J12 v18))) else (lt1 (v7 + 0) (fun v16 => J12 v16))))) (fun v11 => lt1 (v8 + 1) (fun v13 => X6 v11 v13))))) 0 0 := fun j K hj hK => by
      refine LQ2_for (sN (zM 1)) (fun i a => a = ((plc (zM 1) j i : Nat) : Int)) 0 rfl (by omega) rfl (fun X i a hi ha hX => ?_) (fun X a ha => ?_)
      · have pl := plc_le (zM 1) j i
        refine w_if2 ⟨by omega, by omega⟩ r0 (fun e => absurd e (by omega)) (fun _ => w_cmpM h1 rfl hi hj (fun rc => jn_i (fun J => J ((plc (zM 1) j (i + 1) : Nat) : Int)) (lt_i (hX _ rfl)) (fun J hJ => ?_)))
        rw [plc] at hJ
        refine w_if rc (fun e => lt_i ?_) (fun e => w_cmpM h1 rfl hi hj (fun _ => w_if rc (fun e2 => w_if2 ⟨by omega, by omega⟩ ⟨by omega, by omega⟩ (fun e3 => lt_i ?_) (fun e3 => lt_i ?_)) (fun e2 => lt_i ?_)))
        · rw [if_pos (Or.inl e)] at hJ; rw [ha]; exact hJ
        · rw [if_neg (by omega)] at hJ; rw [ha, Int.add_zero]; exact hJ
        · rw [if_pos (by omega)] at hJ; rw [ha]; exact hJ
        · rw [if_neg (by omega)] at hJ; rw [ha, Int.add_zero]; exact hJ
      · subst ha
        exact w_if2 ⟨by omega, by omega⟩ r0 (fun _ => hK) (fun e => absurd e (by omega))
    refine LQ1_for N (fun _ => True) 0 rfl (by omega) trivial (fun X j hj _ hX => ?_) (fun X _ => ?_)
    · have pl := plc_le (zM 1) j (sN (zM 1))
      refine w_if2 ⟨by omega, by omega⟩ r0 (fun e => absurd e (by omega)) (fun _ => lt_i (lt_i (inner j _ (by omega) (w_if2 ⟨by omega, by omega⟩ ha (fun e => absurd e (hpre j hj)) (fun _ => lt_i (hX trivial))))))
    · rcases hend with ⟨rfl, rfl⟩ | ⟨e1, rfl, e2⟩
      · exact w_if2 ⟨by omega, by omega⟩ r0 (fun _ => ⟨rfl, h⟩) (fun e => absurd e (by omega))
      · have pl := plc_le (zM 1) N (sN (zM 1))
        exact w_if2 ⟨by omega, by omega⟩ r0 (fun e => absurd e (by omega)) (fun _ => lt_i (lt_i (inner N _ e1 (w_if2 ⟨by omega, by omega⟩ ha (fun _ => ⟨rfl, h⟩) (fun r => absurd e2 r)))))
  unfold cal_X9_byName
  refine lt_i (LQ1_for (sN (zM 1)) (fun j => ∀ q, q < j → (plc (zM 1) q (sN (zM 1)) : Int) ≠ a1) 0 rfl (by omega) (fun q hq => absurd hq (by omega)) (fun X j hj hI hX => ?_) (fun X hI => ?_))
  · rw [b0]
    refine w_if2 ⟨by omega, by omega⟩ r0 (fun e => absurd e (by omega)) (fun _ => ?_)
    have pl := plc_le (zM 1) j (sN (zM 1))
    refine lt_i (lt_i (LQ2_for (sN (zM 1)) (fun i a => a = ((plc (zM 1) j i : Nat) : Int)) 0 rfl (by omega) rfl (fun Y i a hi ha2 hY => ?_) (fun Y a ha2 => ?_)))
    · have pl := plc_le (zM 1) j i
      rw [b0]
      refine w_if2 ⟨by omega, by omega⟩ r0 (fun e => absurd e (by omega)) (fun _ => w_cmp h1 bp hi hj (fun v ⟨s1, s2, s3⟩ => lt_i (jn_i (fun J => J ((plc (zM 1) j (i + 1) : Nat) : Int)) (lt_i (hY _ rfl)) (fun J hJ => ?_))))
      rw [plc] at hJ
      refine jn_i (fun (J11 : Prop) => (cq (zM 1) i j 7 < 0 ∨ (cq (zM 1) i j 7 = 0 ∧ i < j)) → J11) (fun e => lt_i ?_) (fun J11 h11 => w_if s3 (fun e => h11 (Or.inl (s1.mp e))) (fun e => w_if s3 (fun e2 => w_if2 ⟨by omega, by omega⟩ ⟨by omega, by omega⟩ (fun e3 => ?_) (fun e3 => h11 (Or.inr ⟨s2.mp e2, by omega⟩))) (fun e2 => ?_)))
      · rw [if_pos e] at hJ; rw [ha2]; exact hJ
      · rw [if_neg (fun q => q.elim (fun q => e (s1.mpr q)) (fun q => by omega))] at hJ; rw [ha2]; exact hJ
      · rw [if_neg (fun q => q.elim (fun q => e (s1.mpr q)) (fun q => e2 (s2.mpr q.1)))] at hJ; rw [ha2]; exact hJ
    · subst ha2
      rw [b0]
      refine w_if2 ⟨by omega, by omega⟩ r0 (fun _ => w_if2 ⟨by omega, by omega⟩ ha (fun e => ref _ (Or.inl ⟨j, hj, rfl, e, hI⟩)) (fun e => lt_i (hX (fun q hq => ?_)))) (fun e => absurd e (by omega))
      by_cases g : q = j
      · subst g; exact e
      · exact hI q (by omega)
  · rw [b0]
    exact w_if2 ⟨by omega, by omega⟩ r0 (fun _ => ref _ (Or.inr ⟨rfl, hI⟩)) (fun e => absurd e (by omega))
