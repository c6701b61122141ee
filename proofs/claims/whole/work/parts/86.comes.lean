/-! a statement comes -/
/-- a statement's five numbers, and whether it lives -/
def SRow (n : Nat) (r : Nat → Int) (v : Int) : Prop := (0 ≤ r 0 ∧ r 0 ≤ 7) ∧ (0 ≤ r 1 ∧ r 1 < n) ∧ ((isTwo (r 0) ∧ 0 ≤ r 2 ∧ r 2 < n) ∨ (¬ isTwo (r 0) ∧ r 2 = -5)) ∧ (-5 ≤ r 3 ∧ r 3 ≤ 3000 ∧ (isYrs (r 0) ∨ r 0 = 6 ∨ r 0 = 7 → 0 ≤ r 3) ∧ (¬ (isYrs (r 0) ∨ r 0 = 6 ∨ r 0 = 7) → r 3 = -5)) ∧ (-5 ≤ r 4 ∧ r 4 ≤ 3000 ∧ (isYrs (r 0) → 0 ≤ r 4) ∧ (¬ isYrs (r 0) → r 4 = -5)) ∧ (v = 0 ∨ v = 1)
def apS (S : Nat → Int) (T : Nat) (r : Nat → Int) (v : Int) : Nat → Int := fun j => if j = 1 then (T : Int) + 1 else if 242 + 6 * T ≤ j ∧ j < 242 + 6 * T + 5 then r (j - (242 + 6 * T)) else if j = 242 + 6 * T + 5 then v else S j
theorem apS_1 {S : Nat → Int} {T : Nat} {r : Nat → Int} {v : Int} : apS S T r v 1 = (T : Int) + 1 := if_pos rfl
theorem apS_r {S : Nat → Int} {T : Nat} {r : Nat → Int} {v : Int} {i : Nat} (hi : i < 5) : apS S T r v (242 + 6 * T + i) = r i := by
  unfold apS
  rw [if_neg (by omega), if_pos (by omega)]
  congr 1
  omega
theorem apS_v {S : Nat → Int} {T : Nat} {r : Nat → Int} {v : Int} : apS S T r v (242 + 6 * T + 5) = v := by
  unfold apS
  rw [if_neg (by omega), if_neg (by omega), if_pos rfl]
theorem apS_o {S : Nat → Int} {T : Nat} {r : Nat → Int} {v : Int} {j : Nat} (h1 : j ≠ 1) (h2 : j < 242 + 6 * T ∨ 242 + 6 * T + 6 ≤ j) : apS S T r v j = S j := by
  unfold apS
  rw [if_neg h1, if_neg (by omega), if_neg (by omega)]
theorem apS_n {S : Nat → Int} {T : Nat} {r : Nat → Int} {v : Int} : sN (apS S T r v) = sN S := by
  unfold sN
  rw [apS_o (by omega) (by omega)]
theorem apS_t {S : Nat → Int} {T : Nat} {r : Nat → Int} {v : Int} : sT (apS S T r v) = T + 1 := by
  unfold sT
  rw [apS_1]; omega
theorem apS_row {S : Nat → Int} {T : Nat} {r : Nat → Int} {v : Int} : fS (apS S T r v) T = r 0 ∧ fA (apS S T r v) T = (r 1).toNat ∧ fB (apS S T r v) T = r 2 ∧ fL (apS S T r v) T = r 3 ∧ fH (apS S T r v) T = r 4 ∧ fV (apS S T r v) T = v := by
  refine ⟨apS_r (i := 0) (by omega), ?_, apS_r (i := 2) (by omega), apS_r (i := 3) (by omega), apS_r (i := 4) (by omega), apS_v⟩
  unfold fA
  rw [apS_r (i := 1) (by omega)]
theorem apS_ok {M : Nat} {S : Nat → Int} {r : Nat → Int} {v : Int} (h : SOk M S) (hr : SRow (sN S) r v) : SOk (M + 1) (apS S (sT S) r v) := by
  have hn := h.n
  have ht := h.t
  refine ⟨by rw [apS_o (by omega) (by omega)]; exact h.1, by rw [apS_1]; omega, fun p hp => ?_, fun t htt => ?_⟩
  · rw [apS_n] at hp
    exact (h.2.2.1 p hp).cg (fun i hi => apS_o (by omega) (by omega))
  · rw [apS_t] at htt
    rw [apS_n]
    by_cases g : t = sT S
    · subst g
      obtain ⟨e0, _, e2, e3, e4, e5⟩ := @apS_row S (sT S) r v
      unfold StOk
      rw [e0, e2, e3, e4, e5, apS_r (i := 1) (by omega)]
      exact hr
    · exact (h.2.2.2 t (by omega)).cg (fun w hw => apS_o (by omega) (by omega))
theorem w_X10_comes {T : Nat} {v : Int} {S : Nat → Int} {z : Hp} {K : Hp → Prop} (h1 : z 1 1 = T) (hT : T ≤ 60) (hS : apS (z 1) T (z 5) v = S) (hok : SOk 61 S) (h4 : ∀ t, t < sT S → fS S t = 4 → t < 60) (k : ∀ z' : Hp, z' 1 = S → RefW z' S → (∀ j, j ≠ 17 → j ≠ 18 → j ≠ 19 → j ≠ 20 → j ≠ 21 → z' 0 j = z 0 j) → (∀ c, c ≠ 0 → c ≠ 1 → c ≠ 5 → (c < 6 ∨ 12 < c) → z' c = z c) → K z') : cal_X10_comes v z K := by
  refine hp_i (lt_i (LP1_for 6 (fun j z' => (∀ i, i < j → z' 1 (242 + 6 * T + i) = if i < 5 then z 5 i else v) ∧ (∀ i, (i < 242 + 6 * T ∨ 242 + 6 * T + 6 ≤ i) → z' 1 i = z 1 i) ∧ (∀ i, i < 5 → z' 5 i = z 5 i) ∧ z' 5 5 = v ∧ ∀ c, c ≠ 1 → c ≠ 5 → z' c = z c) 0 rfl (by omega) ⟨fun i hi => absurd hi (by omega), fun i _ => kup_c (by omega), fun i hi => kup_n (by omega), kup_eq, fun c _ hc => by funext i; exact kup_c hc⟩ (fun X j z1 hj hI hX => ?_) (fun X z1 hI => ?_)))
  · obtain ⟨i1, i2, i3, i4, i5⟩ := hI
    have e1 : z1 1 1 = T := by rw [i2 1 (by omega)]; exact h1
    rw [e1]
    refine w_if ⟨by omega, by omega⟩ (fun e => absurd e (by omega)) (fun _ => ⟨⟨by omega, by omega⟩, ⟨by omega, by omega⟩, hp_i (lt_i (hX _ ?_))⟩)
    rw [show (242 + 6 * (T : Int) + (j : Int)).toNat = 242 + 6 * T + j by omega, Int.toNat_natCast]
    refine ⟨fun i hi => ?_, fun i hi => ?_, fun i hi => by rw [kup_c (by omega)]; exact i3 i hi, by rw [kup_c (by omega)]; exact i4, fun c c1 c5 => by rw [← i5 c c1 c5]; funext i; exact kup_c c1⟩
    · by_cases g : i = j
      · subst g
        rw [kup_eq]
        by_cases g2 : i < 5
        · rw [if_pos g2]; exact i3 i g2
        · rw [if_neg g2, show i = 5 by omega]; exact i4
      · rw [pt_ne (by omega)]; exact i1 i (by omega)
    · rw [pt_ne (by omega)]; exact i2 i hi
  · obtain ⟨i1, i2, i3, i4, i5⟩ := hI
    have e1 : z1 1 1 = T := by rw [i2 1 (by omega)]; exact h1
    refine w_if ⟨by omega, by omega⟩ (fun _ => hp_i ?_) (fun e => absurd e (by omega))
    have er : kup z1 1 1 (z1 1 1 + 1) 1 = S := by
      rw [← hS]
      funext j
      unfold apS
      by_cases g1 : j = 1
      · subst g1; rw [kup_eq, if_pos rfl, e1]
      · rw [pt_ne g1, if_neg g1]
        by_cases g2 : 242 + 6 * T ≤ j ∧ j < 242 + 6 * T + 5
        · rw [if_pos g2]
          have := i1 (j - (242 + 6 * T)) (by omega)
          rw [if_pos (by omega), show 242 + 6 * T + (j - (242 + 6 * T)) = j by omega] at this
          exact this
        · rw [if_neg g2]
          by_cases g3 : j = 242 + 6 * T + 5
          · rw [if_pos g3, g3, i1 5 (by omega), if_neg (by omega)]
          · rw [if_neg g3]; exact i2 j (by omega)
    refine w_X10_works (M := 61) (by omega) er hok h4 (fun z' hR f0 fc => k z' ?_ hR (fun j a b c d e => ?_) (fun c c0 c1 c5 hc => ?_))
    · rw [fc 1 (by decide) (by omega)]; exact er
    · rw [f0 j a b c d e, kup_c (by decide), i5 0 (by decide) (by decide)]
    · rw [fc c c0 hc, ← i5 c c1 c5]
      funext i; exact kup_c c1
theorem pF_row {T : Nat → Int} {n N : Nat} {r : Nat → Int} {v : Int} (hn : n ≤ 60) (h : pF T n N < 0) (r0 : r 0 = pS T n) (r1 : r 1 = (q1 T n N).2.2) (r2 : r 2 = (q2 T n N).2.2) (r3 : r 3 = (q3 T n N).2.2) (r4 : r 4 = (q4 T n N).2.2) (hv : v = 0 ∨ v = 1) : SRow N r v := by
  obtain ⟨h1, h2, h3, h4, h5⟩ := pF_ok hn h
  rw [← r0] at h1 h3 h4 h5
  rw [← r1] at h2
  rw [← r2] at h3
  rw [← r3] at h4
  rw [← r4] at h5
  unfold SRow isTwo isYrs
  refine ⟨h1, h2, h3, ?_, ?_, hv⟩
  · omega
  · omega
theorem Inv.read {zC zM z1 z' : Hp} (h : Inv zC zM) (xf : ∀ c, c ≠ 85 → z1 c = zC c) (y6 : z' 0 6 = 0) (yf : RM5 zM z') : Inv (kup z1 81 1 0) z' := by
  have a1 := h.wipe
  have a2 : Inv (kup z1 81 1 0) (kup zM 0 6 0) := a1.scr (fun c c1 _ _ => by
    funext j
    by_cases g : c = 81 ∧ j = 1
    · obtain ⟨rfl, rfl⟩ := g; rw [kup_eq, kup_eq]
    · rw [kup_n g, kup_n g, xf c c1])
  refine a2.scrM (fun c c0 c5 _ => by rw [yf.2 c c0 c5]; funext j; exact (kup_c c0).symm) (fun j j8 j9 _ _ _ => ?_)
  by_cases g : j = 6
  · subst g; rw [kup_eq]; exact y6
  · rw [pt_ne g]; exact yf.1 j g j8 j9
theorem w_write {T : Nat} {v : Int} {z : Hp} {K : Hp → Prop} (hT : T ≤ 60) (k : ∀ z' : Hp, (z' 35 T = z 85 0 ∧ z' 36 T = z 85 1 ∧ z' 37 T = z 85 2 ∧ z' 38 T = z 85 3 ∧ z' 39 T = z 85 4 ∧ z' 40 T = v) → (∀ c t, t ≠ T → z' c t = z c t) → (∀ c, (c < 35 ∨ 40 < c) → z' c = z c) → K z') : cal_X0_write 1 T 85 v z K := by
  have ib : inb (T : Int) 61 := ⟨by omega, by omega⟩
  refine ⟨ib, hp_i ⟨ib, hp_i ⟨ib, hp_i ⟨ib, hp_i ⟨ib, hp_i ⟨ib, hp_i ?_⟩⟩⟩⟩⟩⟩
  rw [Int.toNat_natCast]
  refine k _ ⟨?_, ?_, ?_, ?_, ?_, kup_eq⟩ (fun c t ht => ?_) (fun c hc => ?_)
  · rw [kup_c (by decide), kup_c (by decide), kup_c (by decide), kup_c (by decide), kup_c (by decide)]; exact kup_eq
  · rw [kup_c (by decide), kup_c (by decide), kup_c (by decide), kup_c (by decide), kup_eq, kup_c (by decide)]
  · rw [kup_c (by decide), kup_c (by decide), kup_c (by decide), kup_eq, kup_c (by decide), kup_c (by decide)]
  · rw [kup_c (by decide), kup_c (by decide), kup_eq, kup_c (by decide), kup_c (by decide), kup_c (by decide)]
  · rw [kup_c (by decide), kup_eq, kup_c (by decide), kup_c (by decide), kup_c (by decide), kup_c (by decide)]
  · rw [kup_n (fun q => ht q.2), kup_n (fun q => ht q.2), kup_n (fun q => ht q.2), kup_n (fun q => ht q.2), kup_n (fun q => ht q.2), kup_n (fun q => ht q.2)]
  · funext i
    rw [kup_c (by omega), kup_c (by omega), kup_c (by omega), kup_c (by omega), kup_c (by omega), kup_c (by omega)]
theorem inv_op5 : op5 Inv := by
  intro a1 zC zM ha h
  have h1 := h.1
  have hn := h1.n
  have ht := h1.t
  obtain ⟨b0, b1, b2, b3, b4, b5⟩ := h.2.1
  obtain ⟨r0, r1, r2, r3⟩ := rgS h1
  obtain ⟨n, n1, n2, n3, n4⟩ := h.2.2.2.1
  unfold cal_X9_state
  refine w_X9_isFlag ha (fun q => w_t rg1 ?_) (fun q => w_f rg0 (w_X10_isIn ha rg0 rg1 (fun r => absurd r q) (fun _ => w_f rg0 ⟨rfl, h⟩)))
  refine w_if (by rw [b1]; exact r1) (fun c1 => ?_) (fun c1 => ?_)
  rotate_left
  · refine w_X10_isIn ha rg0 rg1 (fun _ => w_t rg1 ?_) (fun r => absurd q r)
    exact w_if r1 (fun _ => ⟨rfl, h⟩) (fun e => absurd e (by rw [b1] at c1; omega))
  rw [b1] at c1
  refine lt_i ?_
  rw [b0, hn.1]
  refine w_X4_reads (n := n) (N := sN (zM 1)) (T := zM 3) ⟨n3, n1, n4⟩ hn.2 (fun v z1 x5 xv xf => lt_i (hp_i ?_))
  have ref : ∀ G : Int → Hp → Prop, (∀ z' : Hp, z' 0 9 = pF (zM 3) n (sN (zM 1)) → 0 ≤ pF (zM 3) n (sN (zM 1)) → z' 0 6 = 0 → RM5 zM z' → G (-100 - pF (zM 3) n (sN (zM 1))) z') → (pF (zM 3) n (sN (zM 1)) < 0 → ∀ z' : Hp, z' 5 0 = pS (zM 3) n → z' 5 1 = (q1 (zM 3) n (sN (zM 1))).2.2 → z' 5 2 = (q2 (zM 3) n (sN (zM 1))).2.2 → z' 5 3 = (q3 (zM 3) n (sN (zM 1))).2.2 → z' 5 4 = (q4 (zM 3) n (sN (zM 1))).2.2 → z' 0 6 = 0 → RM5 zM z' → cal_X10_comes a1 z' (fun z4 => G (z4 1 1 - 1) z4)) → cal_X10_state a1 zM G := fun G g0 g1 => by
    refine w_X10_isIn ha rg0 rg1 (fun _ => w_t rg1 (w_if r1 (fun e => absurd e (by omega)) (fun _ => ?_))) (fun r => absurd q r)
    refine w_X10_reads (n := n) (N := sN (zM 1)) (T := zM 3) ⟨n2, n1, fun i hi => ⟨rfl, (n4 i hi).2⟩⟩ hn.2 hn.1 (fun v z' y9 yv y0 y1 y2 y3 y4 y6 yf => ?_)
    rcases yv with ⟨rfl, yv⟩ | ⟨rfl, yv⟩
    · exact w_t rg1 (g1 yv z' y0 y1 y2 y3 y4 y6 yf)
    · refine w_f rg0 ?_
      rw [y9]
      exact g0 z' y9 yv y6 yf
  have cf : ∀ c, c ≠ 81 → c ≠ 85 → kup z1 81 1 0 c = zC c := fun c a b => by
    rw [← xf c b]; funext i; exact kup_c a
  have cf81 : ∀ j, j ≠ 1 → kup z1 81 1 0 81 j = zC 81 j := fun j hj => by rw [pt_ne hj, xf 81 (by decide)]
  have it : ∀ z' z'' : Hp, z' 81 1 = 0 → z'' 0 6 = 0 → ITp z' z'' := fun z' z'' e e' => ⟨0, by omega, e', e, fun i hi => absurd hi (by omega)⟩
  rcases xv with ⟨rfl, pneg, s0, s1, s2, s3, s4⟩ | ⟨rfl, ppos⟩
  · refine w_t rg1 ?_
    have hT : sT (zM 1) < 60 := by omega
    rw [b1, ht.1]
    refine w_write (T := sT (zM 1)) (by omega) (fun z2 e1 e2 e3 => hp_i (hp_i (hp_i ?_)))
    refine ref _ (fun _ _ e => absurd pneg (by omega)) (fun _ z' y0 y1 y2 y3 y4 y6 yf => ?_)
    have m1 : z' 1 = zM 1 := yf.2 1 (by decide) (by decide)
    have hrow : SRow (sN (zM 1)) (z' 5) a1 := pF_row n1 pneg y0 y1 y2 y3 y4 (by omega)
    have hok := apS_ok h1 hrow
    have e85 : ∀ j, kup z1 81 1 0 85 j = z1 85 j := fun j => kup_c (by decide)
    have hS : apS (z' 1) (sT (zM 1)) (z' 5) a1 = apS (zM 1) (sT (zM 1)) (z' 5) a1 := by rw [m1]
    refine w_X10_comes (T := sT (zM 1)) (by rw [m1]; exact ht.1) (by omega) hS hok (fun t hh _ => by rw [apS_t] at hh; omega) (fun w x1 hR f0 fc => ?_)
    have hrw := @apS_row (zM 1) (sT (zM 1)) (z' 5) a1
    have ne : ∀ j, j ≠ 1 → (j < 242 + 6 * sT (zM 1) ∨ 242 + 6 * sT (zM 1) + 6 ≤ j) → apS (zM 1) (sT (zM 1)) (z' 5) a1 j = zM 1 j := fun j => apS_o
    have e11 : apS (zM 1) (sT (zM 1)) (z' 5) a1 1 = (sT (zM 1) : Int) + 1 := apS_1
    have en : sN (apS (zM 1) (sT (zM 1)) (z' 5) a1) = sN (zM 1) := apS_n
    have et : sT (apS (zM 1) (sT (zM 1)) (z' 5) a1) = sT (zM 1) + 1 := apS_t
    have hS' : SOk 60 (apS (zM 1) (sT (zM 1)) (z' 5) a1) := ⟨hok.1, ⟨hok.2.1.1, by rw [e11]; omega⟩, hok.2.2⟩
    have erow : z' 5 0 = z1 85 0 ∧ z' 5 1 = z1 85 1 ∧ z' 5 2 = z1 85 2 ∧ z' 5 3 = z1 85 3 ∧ z' 5 4 = z1 85 4 := ⟨by rw [y0, s0], by rw [y1, s1], by rw [y2, s2], by rw [y3, s3], by rw [y4, s4]⟩
    generalize apS (zM 1) (sT (zM 1)) (z' 5) a1 = S' at *
    refine ⟨by rw [x1, e11]; omega, ?_⟩
    have cc : ∀ c, c ≠ 0 → c ≠ 1 → kup (kup (kup z2 1 1 ((sT (zM 1) : Int) + 1)) 0 8 0) 0 11 0 c = z2 c := fun c p p2 => by funext i; rw [kup_c p, kup_c p, kup_c p2]
    have c1 : ∀ j, j ≠ 1 → kup (kup (kup z2 1 1 ((sT (zM 1) : Int) + 1)) 0 8 0) 0 11 0 1 j = zC 1 j := fun j hj => by
      rw [kup_c (by decide), kup_c (by decide), pt_ne hj, e3 1 (by decide), cf 1 (by decide) (by decide)]
    have cz : ∀ c, c ≠ 0 → c ≠ 1 → c ≠ 81 → c ≠ 85 → (c < 35 ∨ 40 < c) → kup (kup (kup z2 1 1 ((sT (zM 1) : Int) + 1)) 0 8 0) 0 11 0 c = zC c := fun c p0 p1 p2 p3 p4 => by
      rw [cc c p0 p1, e3 c p4, cf c p2 p3]
    have cr : ∀ c u, 35 ≤ c → c ≤ 40 → u ≠ sT (zM 1) → kup (kup (kup z2 1 1 ((sT (zM 1) : Int) + 1)) 0 8 0) 0 11 0 c u = zC c u := fun c u p0 p1 p2 => by
      rw [cc c (by omega) (by omega), e2 c u p2, cf c (by omega) (by omega)]
    have ct : ∀ c, 35 ≤ c → kup (kup (kup z2 1 1 ((sT (zM 1) : Int) + 1)) 0 8 0) 0 11 0 c (sT (zM 1)) = z2 c (sT (zM 1)) := fun c p => by
      rw [cc c (by omega) (by omega)]
    refine h.chg hS' ⟨?_, ?_, ?_, fun u hu => ?_, fun u hu => ?_, fun p hp i hi => ?_⟩ (fun c p p2 p3 => cz c (by omega) (by omega) p2 p3 (by omega)) ?_ ⟨?_, kup_eq⟩ x1 hR (fun j hj => by rw [f0 j (by omega) (by omega) (by omega) (by omega) (by omega), yf.1 j (by omega) (by omega) (by omega)]) (fun c hc => by rw [fc c (by omega) (by omega) (by omega) (by omega), yf.2 c (by omega) (by omega)]) (it _ _ ?_ (by rw [f0 6 (by decide) (by decide) (by decide) (by decide) (by decide)]; exact y6))
    · rw [c1 0 (by decide), ne 0 (by omega) (by omega)]; exact b0
    · rw [kup_c (by decide), kup_c (by decide), kup_eq, e11]
    · rw [et]
      intro u hu
      by_cases g : u = sT (zM 1)
      · subst g
        obtain ⟨w0, w1, w2, w3, w4, _⟩ := hrw
        rw [ct (1 + 34) (by omega), ct (1 + 35) (by omega), ct (1 + 36) (by omega), ct (1 + 37) (by omega), ct (1 + 38) (by omega), w0, w1, w2, w3, w4]
        obtain ⟨v0, v1, v2, v3, v4, _⟩ := e1
        rw [e85] at v0 v1 v2 v3 v4
        have := hrow.2.1
        exact ⟨v0.trans erow.1.symm, v1.trans (by rw [← erow.2.1]; omega), v2.trans erow.2.2.1.symm, v3.trans erow.2.2.2.1.symm, v4.trans erow.2.2.2.2.symm⟩
      · rw [cr (1 + 34) u (by omega) (by omega) g, cr (1 + 35) u (by omega) (by omega) g, cr (1 + 36) u (by omega) (by omega) g, cr (1 + 37) u (by omega) (by omega) g, cr (1 + 38) u (by omega) (by omega) g]
        exact (b2.cg (S' := S') (fun x hx y hy => ne _ (by omega) (by omega))) u (by omega)
    · rw [et] at hu
      by_cases g : u = sT (zM 1)
      · subst g
        rw [ct (1 + 39) (by omega), hrw.2.2.2.2.2]; exact e1.2.2.2.2.2
      · rw [cr (1 + 39) u (by omega) (by omega) g]
        have : fV S' u = fV (zM 1) u := ne _ (by omega) (by omega)
        rw [this]; exact b3 u (by omega)
    · rw [en] at hu
      obtain ⟨x, l, y, w1, w2, w3, w4⟩ := (b4 u hu).cg (S' := S') (fun i hi => ne _ (by omega) (by omega))
      refine ⟨by rw [cz (1 + 33) (by omega) (by omega) (by omega) (by omega) (by omega)]; exact x, l, by rw [cz (1 + 32) (by omega) (by omega) (by omega) (by omega) (by omega)]; exact y, w1, w2, fun i hi => ?_, w4⟩
      rw [cz (1 + 2 + u) (by omega) (by omega) (by omega) (by omega) (by omega)]; exact w3 i hi
    · rw [cz (1 + 2 + p) (by omega) (by omega) (by omega) (by omega) (by omega)]; exact b5 p hp i hi
    · rw [kup_n (by decide), kup_n (by decide), kup_c (by decide), e3 0 (by decide), cf 0 (by decide) (by decide)]
    · rw [kup_n (by decide), kup_eq]
    · rw [cc 81 (by decide) (by decide), e3 81 (by decide), kup_eq]
  · refine w_f rg0 (ref _ (fun z' y9 _ y6 yf => ⟨?_, ?_⟩) (fun e => absurd ppos (by omega)))
    · rw [kup_c (by decide), x5]
    · exact h.read xf y6 yf
