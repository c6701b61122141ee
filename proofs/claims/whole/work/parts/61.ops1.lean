/-! calls of the tape, the paper, statements, lists -/
theorem RefW.to {z z' : Hp} {S : Nat → Int} (h : RefW z S) (e : ∀ c, 6 ≤ c → c ≤ 12 → z' c = z c) (e0 : ∀ j, j = 2 ∨ j = 17 ∨ j = 18 ∨ j = 19 ∨ j = 21 → z' 0 j = z 0 j) : RefW z' S := by
  obtain ⟨ab, cl, wh, r6, r7, r8, r9, h1, h2, h3⟩ := h
  refine ⟨ab, cl, wh, r6.to (e 6 (by decide) (by decide)), r7.to (e 7 (by decide) (by decide)), r8.to (e 8 (by decide) (by decide)), r9.to (e 9 (by decide) (by decide)), h1, h2, ?_⟩
  unfold RefR at *
  rw [e 10 (by decide) (by decide), e 11 (by decide) (by decide), e 12 (by decide) (by decide), e0 17 (by decide), e0 18 (by decide), e0 19 (by decide), e0 21 (by decide)]
  exact h3
theorem ITp.to {zC zM zC' zM' : Hp} (h : ITp zC zM) (e1 : zC' 81 = zC 81) (e2 : zC' 82 = zC 82) (e3 : zM' 3 = zM 3) (e4 : zM' 0 6 = zM 0 6) : ITp zC' zM' := by
  unfold ITp
  rw [e1, e2, e3, e4]
  exact h
theorem IPp.to {zC zM zC' zM' : Hp} (h : IPp zC zM) (e1 : zC' 83 = zC 83) (e2 : zC' 84 = zC 84) (e3 : zM' 4 = zM 4) (e4 : zM' 0 7 = zM 0 7) : IPp zC' zM' := by
  unfold IPp
  rw [e1, e2, e3, e4]
  exact h
theorem ILs.to {zC zM zC' zM' : Hp} (h : ILs zC zM) (e : ∀ c, 138 ≤ c → c ≤ 142 → zC' c = zC c) (e1 : zM' 18 = zM 18) (e2 : zM' 19 = zM 19) : ILs zC' zM' := fun l hl => by
  rw [e 142 (by omega) (by omega), e (138 + l) (by omega) (by omega), e1, e2]
  exact h l hl
theorem Inv.upd {zC zM zC' zM' : Hp} (h : Inv zC zM) (c1 : ∀ c, 1 ≤ c → c ≤ 80 → zC' c = zC c) (c0 : ∀ j, j = 2 ∨ j = 8 ∨ j = 10 ∨ j = 11 → zC' 0 j = zC 0 j) (cs : ∀ c, (86 ≤ c ∧ c ≤ 108) ∨ c = 132 → zC' c = zC c) (m1 : zM' 1 = zM 1) (m2 : zM' 2 = zM 2) (mr : ∀ c, 6 ≤ c → c ≤ 12 → zM' c = zM c) (m0 : ∀ j, j = 2 ∨ j = 17 ∨ j = 18 ∨ j = 19 ∨ j = 21 → zM' 0 j = zM 0 j) (t : ITp zC' zM') (p : IPp zC' zM') (l : ILs zC' zM') : Inv zC' zM' := by
  obtain ⟨h1, h2, h3, _, _, _, h7, h8⟩ := h
  unfold Inv
  rw [m1]
  refine ⟨h1, h2.to h1.n.2 (fun c a b => c1 c a (by omega)), ?_, t, p, l, h7.to mr m0, h8.to cs ⟨c0 8 (by decide), c0 10 (by decide), c0 11 (by decide)⟩⟩
  unfold IKp
  rw [c0 2 (by decide), m0 2 (by decide), m2]
  rcases h3 with h3 | ⟨a, b, c, d⟩
  · exact Or.inl h3
  · exact Or.inr ⟨a, b, c, d.to c.n.2 (fun c p q => c1 c (by omega) (by omega))⟩
theorem klT81 : klT 81 = 60 := by decide
theorem klT83 : klT 83 = 400 := by decide
theorem w_at {t n : Nat} {a : Int} {z : Hp} {K : Int → Prop} (ha : rg a) (hn : z t 1 = n) (hk : n ≤ klT t) (hk2 : klT t ≤ 400) (h1 : ∀ i : Nat, a = i → i < n → K (z (t + 1) i)) (h0 : ¬ (0 ≤ a ∧ a < n) → K (-1)) : cal_X5_at t a z K := by
  unfold cal_X5_at
  rw [hn]
  refine w_if ha (fun e => h0 (by omega)) (fun e => ⟨ha, ⟨by omega, by omega⟩, w_ite (fun e' => h0 (by omega)) (fun e' => ⟨⟨by omega, by omega⟩, h1 a.toNat (by omega) (by omega)⟩)⟩)
theorem inv_op0 : op0 Inv := by
  intro a1 zC zM ha h
  obtain ⟨n, n1, n2, n3, n4⟩ := h.2.2.2.1
  have bad : ¬ (1 ≤ a1 ∧ a1 ≤ 127) → cal_X10_feed a1 zM (fun r' zM' => (-2 : Int) = r' ∧ Inv zC zM') := fun q => w_X10_isIn ha rg1 ⟨by decide, by decide⟩ (fun r => absurd r q) (fun _ => w_f rg0 ⟨rfl, h⟩)
  unfold cal_X9_feed
  refine w_if ha (fun e => bad (by omega)) (fun e => w_if ha (fun e' => ?_) (fun e' => bad (by omega)))
  rw [n3]
  refine w_if ⟨by omega, by omega⟩ (fun e2 => ?_) (fun e2 => w_X10_isIn ha rg1 ⟨by decide, by decide⟩ (fun _ => w_t rg1 ?_) (fun q => absurd q (by omega)))
  · unfold cal_X5_put
    rw [n3, klT81]
    refine ⟨⟨by omega, by omega⟩, ⟨by decide, by decide⟩, ?_⟩
    rw [if_neg (by omega), Int.toNat_natCast]
    refine ⟨⟨by omega, by omega⟩, ⟨by omega, by omega⟩, ⟨by omega, by omega⟩, hp_i (hp_i ?_)⟩
    refine w_X10_isIn ha rg1 ⟨by decide, by decide⟩ (fun _ => w_t rg1 ?_) (fun q => absurd q (by omega))
    rw [n2]
    refine ⟨⟨by omega, by omega⟩, ?_⟩
    rw [if_neg (by omega), Int.toNat_natCast]
    refine ⟨⟨by omega, by omega⟩, hp_i (hp_i ⟨?_, ?_⟩)⟩
    · rw [kup_eq, kup_eq, kup_c (by decide), kup_c (by decide), n2, n3]
    · refine h.upd (fun c p q => by funext i; rw [kup_c (by omega), kup_c (by omega)]) (fun j _ => by rw [kup_c (by decide), kup_c (by decide)]) (fun c q => by funext i; rw [kup_c (by omega), kup_c (by omega)]) (by funext i; rw [kup_c (by decide), kup_c (by decide)]) (by funext i; rw [kup_c (by decide), kup_c (by decide)]) (fun c p q => by funext i; rw [kup_c (by omega), kup_c (by omega)]) (fun j q => by rw [kup_n (by omega), kup_c (by decide)]) ⟨n + 1, by omega, ?_, ?_, fun i hi => ?_⟩ (h.2.2.2.2.1.to (by funext i; rw [kup_c (by decide), kup_c (by decide)]) (by funext i; rw [kup_c (by decide), kup_c (by decide)]) (by funext i; rw [kup_c (by decide), kup_c (by decide)]) (by rw [kup_n (by decide), kup_c (by decide)])) (h.2.2.2.2.2.1.to (fun c p q => by funext i; rw [kup_c (by omega), kup_c (by omega)]) (by funext i; rw [kup_c (by decide), kup_c (by decide)]) (by funext i; rw [kup_c (by decide), kup_c (by decide)]))
      · rw [kup_eq, kup_c (by decide), n2]; omega
      · rw [kup_eq, kup_c (by decide), n3]; omega
      · rw [kup_c (show 82 ≠ 81 by decide), kup_c (show 3 ≠ 0 by decide)]
        by_cases g : i = n
        · subst g; rw [kup_eq, kup_eq]; exact ⟨rfl, by omega⟩
        · rw [kup_n (fun q => g q.2), kup_n (fun q => g q.2)]; exact n4 i (by omega)
  · rw [n2]
    refine ⟨⟨by omega, by omega⟩, ?_⟩
    rw [if_pos (by omega)]
    exact ⟨rfl, h⟩
theorem ITp.wipe {zC zM : Hp} : ITp (kup zC 81 1 0) (kup zM 0 6 0) := ⟨0, by omega, kup_eq, kup_eq, fun i hi => absurd hi (by omega)⟩
/-- both tapes are emptied -/
theorem Inv.wipe {zC zM : Hp} (h : Inv zC zM) : Inv (kup zC 81 1 0) (kup zM 0 6 0) :=
  h.upd (fun c p q => by funext i; rw [kup_c (by omega)]) (fun j _ => by rw [kup_c (by decide)]) (fun c q => by funext i; rw [kup_c (by omega)]) (by funext i; rw [kup_c (by decide)]) (by funext i; rw [kup_c (by decide)]) (fun c p q => by funext i; rw [kup_c (by omega)]) (fun j q => by rw [kup_n (by omega)]) ITp.wipe (h.2.2.2.2.1.to (by funext i; rw [kup_c (by decide)]) (by funext i; rw [kup_c (by decide)]) (by funext i; rw [kup_c (by decide)]) (by rw [kup_n (by decide)])) (h.2.2.2.2.2.1.to (fun c p q => by funext i; rw [kup_c (by omega)]) (by funext i; rw [kup_c (by decide)]) (by funext i; rw [kup_c (by decide)]))
theorem inv_op1 : op1 Inv := by
  intro zC zM h
  obtain ⟨n, n1, n2, n3, n4⟩ := h.2.2.2.1
  exact lt_i (hp_i (lt_i (hp_i ⟨by rw [n2, n3], h.wipe⟩)))
theorem inv_op2 : op2 Inv := by
  intro a1 zC zM ha h
  obtain ⟨n, n1, n2, n3, n4⟩ := h.2.2.2.2.1
  have bad : ¬ (0 ≤ a1 ∧ a1 < n) → cal_X10_paper a1 zM (fun r' => (-1 : Int) = r' ∧ Inv zC zM) := fun q => by
    refine w_X10_isIn ha rg0 (by rw [n2]; constructor <;> omega) (fun r => ?_) (fun _ => w_f rg0 ⟨rfl, h⟩)
    rw [n2] at r; omega
  unfold cal_X9_paper
  refine w_at ha n3 (by rw [klT83]; omega) (by rw [klT83]; omega) (fun i hi hin => ?_) (fun q => bad q)
  subst hi
  refine w_X10_isIn ha rg0 (by rw [n2]; constructor <;> omega) (fun _ => w_t rg1 ⟨⟨by omega, by omega⟩, ?_, h⟩) (fun r => ?_)
  · rw [Int.toNat_natCast]; exact n4 i hin
  · rw [n2] at r; omega
theorem rgS {S : Nat → Int} (h : SOk 60 S) : rg (S 0) ∧ rg (S 1) ∧ rg (S 0 - 1) ∧ rg (S 1 - 1) := by
  have := h.n
  have := h.t
  refine ⟨⟨by omega, by omega⟩, ⟨by omega, by omega⟩, ⟨by omega, by omega⟩, ⟨by omega, by omega⟩⟩
theorem inv_op7 : op7 Inv := by
  intro a1 a2 zC zM ha hb h
  have h1 := h.1
  obtain ⟨b0, b1, b2, b3, _⟩ := h.2.1
  obtain ⟨r0, r1, r2, r3⟩ := rgS h1
  have ht := h1.t
  unfold cal_X9_of
  refine w_X0_isStatement (t := 1) ha (by rw [b1]; exact r1) (fun q => w_t rg1 ?_) (fun q => w_f rg0 ?_)
  rotate_left
  · refine w_X10_isStatement ha r3 (fun r => ?_) (fun _ => w_f rg0 ⟨rfl, h⟩)
    rw [b1] at q; exact absurd r q
  obtain ⟨t, rfl⟩ : ∃ t : Nat, a1 = t := ⟨a1.toNat, by omega⟩
  have htt : t < sT (zM 1) := by rw [b1] at q; omega
  obtain ⟨s0, s1, s2, s3, s4⟩ := b2 t htt
  have s5 := b3 t htt
  have ho := h1.2.2.2 t htt
  have ib : inb (t : Int) 61 := ⟨by omega, by omega⟩
  have ref : ∀ (w : Nat) (v : Int), w ≤ 5 → a2 = w → v = zM 1 (242 + 6 * t + w) → cal_X10_of t a2 zM (fun r' => v = r' ∧ Inv zC zM) := fun w v hw e hv => by
    subst e
    exact w_X10_isStatement ha r3 (fun _ => w_t rg1 (w_X10_isIn hb rg0 ⟨by decide, by decide⟩ (fun _ => w_t rg1 (w_X10_told (by omega) ⟨hv, h⟩)) (fun r => absurd r (by omega)))) (fun r => absurd r (by rw [b1] at q; exact fun r => r q))
  rw [Int.toNat_natCast]
  refine ⟨hb, w_ite (fun e => ⟨ib, ref 0 _ (by omega) e s0⟩) (fun e0 => w_ite (fun e => ⟨ib, ref 1 _ (by omega) e ?_⟩) (fun e1 => w_ite (fun e => ⟨ib, ref 2 _ (by omega) e s2⟩) (fun e2 => w_ite (fun e => ⟨ib, ref 3 _ (by omega) e s3⟩) (fun e3 => w_ite (fun e => ⟨ib, ref 4 _ (by omega) e s4⟩) (fun e4 => w_ite (fun e => ⟨ib, ref 5 _ (by omega) e s5⟩) (fun e5 => ?_))))))⟩
  · rw [ho.at1]; exact s1
  · exact w_X10_isStatement ha r3 (fun _ => w_t rg1 (w_X10_isIn hb rg0 ⟨by decide, by decide⟩ (fun r => absurd r (by omega)) (fun _ => w_f rg0 ⟨rfl, h⟩))) (fun r => absurd r (by rw [b1] at q; exact fun r => r q))
theorem w_hasPlace {t l k : Nat} {a sz : Int} {z : Hp} {K : Int → Prop} (hl : l < 4) (ha : rg a) (hs : z (t + 6) l = sz) (hb : -1 ≤ sz ∧ sz ≤ 40) (hk : k ≤ 40) (h1 : 0 ≤ a ∧ a < sz - k → K 1) (h0 : ¬ (0 ≤ a ∧ a < sz - k) → K 0) : cal_X2_hasPlace t l a k z K := by
  unfold cal_X2_hasPlace
  rw [Int.toNat_natCast, hs]
  refine w_if ha (fun e => h0 (by omega)) (fun e => ⟨⟨by omega, by omega⟩, ha, ⟨by omega, by omega⟩, w_ite (fun e' => h0 (by omega)) (fun e' => h1 (by omega))⟩)
theorem inv_op36 : op36 Inv := by
  intro a1 a2 zC zM ha hb h
  unfold cal_X9_get
  refine w_X2_isList (t := 136) ha (fun q => w_t rg1 ?_) (fun q => w_f rg0 (w_X10_isList ha (fun r => absurd r q) (fun _ => w_f rg0 ⟨rfl, h⟩)))
  obtain ⟨l, rfl⟩ : ∃ l : Nat, a1 = l := ⟨a1.toNat, by omega⟩
  obtain ⟨k1, k2, k3, k4⟩ := h.2.2.2.2.2.1 l (by omega)
  have rs : rg (zM 18 l - 1) := ⟨by omega, by omega⟩
  refine w_hasPlace (t := 136) (k := 0) (by omega) hb k1 ⟨k2, k3⟩ (by omega) (fun r => w_t rg1 ?_) (fun r => w_f rg0 ?_)
  · obtain ⟨i, rfl⟩ : ∃ i : Nat, a2 = i := ⟨a2.toNat, by omega⟩
    have kk := k4 i (by omega)
    rw [Int.toNat_natCast, Int.toNat_natCast, show 137 + 1 + l = 138 + l from rfl, kk.1]
    refine ⟨⟨by omega, by omega⟩, ⟨by omega, by omega⟩, kk.2, ?_⟩
    refine w_X10_isList ha (fun _ => w_t rg1 ⟨⟨by omega, by omega⟩, ?_⟩) (fun r => absurd q r)
    rw [Int.toNat_natCast]
    refine w_X10_isIn hb rg0 rs (fun _ => w_t rg1 ⟨⟨by omega, by omega⟩, ?_⟩) (fun r' => absurd r' (by omega))
    rw [show (40 * (l : Int) + (i : Int)).toNat = 40 * l + i by omega]
    exact ⟨kk.2, rfl, h⟩
  · refine w_X10_isList ha (fun _ => w_t rg1 ⟨⟨by omega, by omega⟩, ?_⟩) (fun r => absurd q r)
    rw [Int.toNat_natCast]
    exact w_X10_isIn hb rg0 rs (fun r' => absurd r' (by omega)) (fun _ => w_f rg0 ⟨rfl, h⟩)
/-- only lists change -/
theorem Inv.lists {zC zM zC' zM' : Hp} (h : Inv zC zM) (e : ∀ c, c < 138 → zC' c = zC c) (m : ∀ c, c < 18 → zM' c = zM c) (l : ILs zC' zM') : Inv zC' zM' :=
  h.upd (fun c _ q => e c (by omega)) (fun j _ => by rw [e 0 (by omega)]) (fun c q => e c (by omega)) (m 1 (by decide)) (m 2 (by decide)) (fun c _ q => m c (by omega)) (fun j _ => by rw [m 0 (by decide)]) (h.2.2.2.1.to (e 81 (by decide)) (e 82 (by decide)) (m 3 (by decide)) (by rw [m 0 (by decide)])) (h.2.2.2.2.1.to (e 83 (by decide)) (e 84 (by decide)) (m 4 (by decide)) (by rw [m 0 (by decide)])) l
/-- one place of a list becomes v -/
theorem ILs.set {zC zM : Hp} {l i : Nat} {v : Int} (h : ILs zC zM) (hl : l < 4) (hi : i < 40) (hv : rg v) : ILs (kup zC (138 + l) i v) (kup zM 19 (40 * l + i) v) := fun l' hl' => by
  obtain ⟨k1, k2, k3, k4⟩ := h l' hl'
  rw [kup_c (by omega), kup_c (by decide)]
  refine ⟨k1, k2, k3, fun i' hi' => ?_⟩
  by_cases e : l' = l ∧ i' = i
  · obtain ⟨rfl, rfl⟩ := e
    rw [kup_eq, kup_eq]; exact ⟨rfl, hv⟩
  · rw [kup_n (fun q => e (by omega)), kup_n (fun q => e (by omega))]
    exact k4 i' hi'
theorem inv_op35 : op35 Inv := by
  intro a1 a2 a3 zC zM ha hb hc h
  unfold cal_X9_set
  refine w_X2_isList (t := 136) ha (fun q => w_t rg1 ?_) (fun q => w_f rg0 (w_X10_isList ha (fun r => absurd r q) (fun _ => w_f rg0 ⟨rfl, h⟩)))
  obtain ⟨l, rfl⟩ : ∃ l : Nat, a1 = l := ⟨a1.toNat, by omega⟩
  obtain ⟨k1, k2, k3, k4⟩ := h.2.2.2.2.2.1 l (by omega)
  have rs : rg (zM 18 l - 1) := ⟨by omega, by omega⟩
  have il : inb (l : Int) 4 := ⟨by omega, by omega⟩
  rw [Int.toNat_natCast, k1]
  refine ⟨il, w_if ⟨by omega, by omega⟩ (fun e => ?_) (fun e => w_X10_isList ha (fun _ => w_t rg1 ⟨il, ?_⟩) (fun r => absurd q r))⟩
  rotate_left
  · rw [Int.toNat_natCast]
    exact w_if ⟨by omega, by omega⟩ (fun e' => absurd e' e) (fun _ => ⟨rfl, h⟩)
  refine w_hasPlace (t := 136) (k := 0) (by omega) hb k1 ⟨k2, k3⟩ (by omega) (fun r => w_t rg1 ?_) (fun r => w_f rg0 ?_)
  · obtain ⟨i, rfl⟩ : ∃ i : Nat, a2 = i := ⟨a2.toNat, by omega⟩
    rw [Int.toNat_natCast]
    refine ⟨il, ⟨by omega, by omega⟩, hp_i (w_X10_isList ha (fun _ => w_t rg1 ⟨il, ?_⟩) (fun r => absurd q r))⟩
    rw [Int.toNat_natCast]
    refine w_if ⟨by omega, by omega⟩ (fun _ => ⟨il, w_X10_isIn hb rg0 rs (fun _ => w_t rg1 ⟨⟨by omega, by omega⟩, hp_i ?_⟩) (fun r' => absurd r' (by omega))⟩) (fun e' => absurd e e')
    rw [show (40 * (l : Int) + (i : Int)).toNat = 40 * l + i by omega]
    exact ⟨rfl, h.lists (fun c hc => by funext j; rw [kup_c (by omega)]) (fun c hc => by funext j; rw [kup_c (by omega)]) (h.2.2.2.2.2.1.set (by omega) (by omega) hc)⟩
  · refine w_X10_isList ha (fun _ => w_t rg1 ⟨il, ?_⟩) (fun r => absurd q r)
    rw [Int.toNat_natCast]
    exact w_if ⟨by omega, by omega⟩ (fun _ => ⟨il, w_X10_isIn hb rg0 rs (fun r' => absurd r' (by omega)) (fun _ => w_f rg0 ⟨rfl, h⟩)⟩) (fun e' => absurd e e')
theorem inv_op34 : op34 Inv := by
  intro a1 a2 zC zM ha hb h
  unfold cal_X9_list
  refine w_X2_isList (t := 136) ha (fun q => w_t rg1 ?_) (fun q => w_f rg0 (w_X10_isList ha (fun r => absurd r q) (fun _ => w_f rg0 ⟨rfl, h⟩)))
  obtain ⟨l, rfl⟩ : ∃ l : Nat, a1 = l := ⟨a1.toNat, by omega⟩
  have il : inb (l : Int) 4 := ⟨by omega, by omega⟩
  refine w_if hb (fun e => w_if hb (fun e' => ?_) (fun e' => ?_)) (fun e => ?_)
  rotate_left
  · exact w_X10_isList ha (fun _ => w_t rg1 (w_if hb (fun _ => w_if hb (fun r => absurd r e') (fun _ => ⟨rfl, h⟩)) (fun r => absurd e r))) (fun r => absurd q r)
  · exact w_X10_isList ha (fun _ => w_t rg1 (w_if hb (fun r => absurd r e) (fun _ => ⟨rfl, h⟩))) (fun r => absurd q r)
  obtain ⟨n, rfl⟩ : ∃ n : Nat, a2 = n := ⟨a2.toNat, by omega⟩
  unfold cal_X2_begin
  rw [Int.toNat_natCast]
  refine ⟨il, hp_i (lt_i ?_)⟩
  refine LP1_for 40 (fun j z' => z' 142 = kup zC 142 l n 142 ∧ (∀ i, i < j → z' (138 + l) i = 0) ∧ ∀ c, c ≠ 138 + l → c ≠ 142 → z' c = zC c) 0 rfl (by omega) ⟨rfl, fun i hi => absurd hi (by omega), fun c _ c1 => by funext j; exact kup_c c1⟩ (fun X j z1 hj hI hX => ?_) (fun X z1 hI => ?_)
  · obtain ⟨i1, i2, i3⟩ := hI
    refine w_if ⟨by omega, by omega⟩ (fun e => absurd e (by omega)) (fun _ => ⟨il, ⟨by omega, by omega⟩, hp_i (lt_i (hX _ ⟨?_, fun i hi => ?_, fun c c0 c1 => ?_⟩))⟩)
    · funext i; rw [kup_c (by omega), i1]
    · rw [Int.toNat_natCast]
      by_cases g : i = j
      · subst g; exact kup_eq
      · rw [kup_n (fun q => g q.2)]; exact i2 i (by omega)
    · funext i; rw [kup_c (by omega), i3 c c0 c1]
  · obtain ⟨i1, i2, i3⟩ := hI
    refine w_if ⟨by omega, by omega⟩ (fun _ => w_X10_isList ha (fun _ => w_t rg1 (w_if hb (fun _ => w_if hb (fun _ => ⟨il, hp_i (lt_i ?_)⟩) (fun r => absurd e' r)) (fun r => absurd e r))) (fun r => absurd q r)) (fun e => absurd e (by omega))
    rw [Int.toNat_natCast]
    refine LP1_for n (fun j z' => z' 18 = kup zM 18 l n 18 ∧ (∀ i, i < j → z' 19 (40 * l + i) = 0) ∧ (∀ i, (∀ i', i' < 40 → i ≠ 40 * l + i') → z' 19 i = zM 19 i) ∧ ∀ c, c ≠ 18 → c ≠ 19 → z' c = zM c) 0 rfl (by omega) ⟨rfl, fun i hi => absurd hi (by omega), fun i _ => by rw [kup_c (by decide)], fun c c0 _ => by funext j; exact kup_c c0⟩ (fun X j z2 hj hI hX => ?_) (fun X z2 hI => ?_)
    · obtain ⟨j1, j2, j3, j4⟩ := hI
      refine w_if2 ⟨by omega, by omega⟩ ⟨by omega, by omega⟩ (fun e => absurd e (by omega)) (fun _ => ⟨⟨by omega, by omega⟩, hp_i (lt_i (hX _ ⟨?_, fun i hi => ?_, fun i hi => ?_, fun c c0 c1 => ?_⟩))⟩)
      · funext i; rw [kup_c (by decide), j1]
      · rw [show (40 * (l : Int) + (j : Int)).toNat = 40 * l + j by omega]
        by_cases g : i = j
        · subst g; exact kup_eq
        · rw [kup_n (fun q => g (by omega))]; exact j2 i (by omega)
      · rw [show (40 * (l : Int) + (j : Int)).toNat = 40 * l + j by omega, kup_n (fun q => hi j (by omega) q.2)]; exact j3 i hi
      · funext i; rw [kup_c c1, j4 c c0 c1]
    · obtain ⟨j1, j2, j3, j4⟩ := hI
      refine w_if2 ⟨by omega, by omega⟩ ⟨by omega, by omega⟩ (fun _ => ⟨rfl, h.lists (fun c hc => i3 c (by omega) (by omega)) (fun c hc => j4 c (by omega) (by omega)) (fun l' hl' => ?_)⟩) (fun e => absurd e (by omega))
      obtain ⟨k1, k2, k3, k4⟩ := h.2.2.2.2.2.1 l' hl'
      rw [i1, j1]
      by_cases g : l' = l
      · subst g
        rw [kup_eq, kup_eq]
        exact ⟨rfl, by omega, by omega, fun i hi => by rw [i2 i (by omega), j2 i (by omega)]; exact ⟨rfl, rg0⟩⟩
      · rw [kup_n (fun q => g q.2), kup_n (fun q => g q.2)]
        refine ⟨k1, k2, k3, fun i hi => ?_⟩
        rw [i3 (138 + l') (by omega) (by omega), j3 (40 * l' + i) (fun i' hi' => by omega)]
        exact k4 i hi
