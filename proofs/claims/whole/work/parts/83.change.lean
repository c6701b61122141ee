/-! the book changes -/
theorem StOk.cg {n : Nat} {S S' : Nat → Int} {t : Nat} (e : ∀ w, w ≤ 5 → S' (242 + 6 * t + w) = S (242 + 6 * t + w)) (h : StOk n S t) : StOk n S' t := by
  have e0 : S' (242 + 6 * t) = S (242 + 6 * t) := e 0 (by omega)
  have e1 := e 1 (by omega)
  have e2 := e 2 (by omega)
  have e3 := e 3 (by omega)
  have e4 := e 4 (by omega)
  have e5 := e 5 (by omega)
  unfold StOk fS fB fL fH fV at *
  rw [e0, e1, e2, e3, e4, e5]
  exact h
theorem PeOk.cg {S S' : Nat → Int} {p : Nat} (e : ∀ i, i < 8 → S' (2 + 8 * p + i) = S (2 + 8 * p + i)) (h : PeOk S p) : PeOk S' p := by
  obtain ⟨⟨l, h1, h2, h3, h4⟩, h5⟩ := h
  refine ⟨⟨l, h1, h2, fun i hi => ?_, fun i a b => ?_⟩, ?_⟩
  · have := h3 i hi; unfold pL at *; rw [e i (by omega)]; exact this
  · have := h4 i a b; unfold pL at *; rw [e i (by omega)]; exact this
  · unfold pX at *; rw [e 7 (by omega)]; exact h5
theorem StOk.up {n m : Nat} {S : Nat → Int} {t : Nat} (hm : n ≤ m) (h : StOk n S t) : StOk m S t := by
  obtain ⟨a, b, c, d⟩ := h
  exact ⟨a, ⟨b.1, by omega⟩, c.elim (fun q => Or.inl ⟨q.1, q.2.1, by omega⟩) Or.inr, d⟩
theorem SOk.cg {M : Nat} {S S' : Nat → Int} (hM : M ≤ 61) (h : SOk M S) (e : ∀ j, j < 608 → S' j = S j) : SOk M S' := by
  have hn := h.n
  have ht := h.t
  have e0 := e 0 (by omega)
  have e1 := e 1 (by omega)
  have en : sN S' = sN S := by unfold sN; rw [e0]
  have et : sT S' = sT S := by unfold sT; rw [e1]
  refine ⟨by rw [e0]; exact h.1, by rw [e1]; exact h.2.1, fun p hp => ?_, fun t htt => ?_⟩
  · rw [en] at hp
    exact (h.2.2.1 p hp).cg (fun i hi => e _ (by omega))
  · rw [et] at htt
    rw [en]
    exact (h.2.2.2 t htt).cg (fun w hw => e _ (by omega))
theorem BkSt.cg {z : Hp} {r m : Nat} {S S' : Nat → Int} (h : BkSt z r S m) (e : ∀ t, t < m → ∀ w, w ≤ 4 → S' (242 + 6 * t + w) = S (242 + 6 * t + w)) : BkSt z r S' m := fun t ht => by
  have e0 : S' (242 + 6 * t) = S (242 + 6 * t) := e t ht 0 (by omega)
  have := h t ht
  unfold fS fA fB fL fH at *
  rw [e0, e t ht 1 (by omega), e t ht 2 (by omega), e t ht 3 (by omega), e t ht 4 (by omega)]
  exact this
theorem PeC.cg {z : Hp} {r p : Nat} {S S' : Nat → Int} (h : PeC z r S p) (e : ∀ i, i < 8 → S' (2 + 8 * p + i) = S (2 + 8 * p + i)) : PeC z r S' p := by
  obtain ⟨a, l, b, c, d, f, g⟩ := h
  refine ⟨?_, l, b, c, d, fun i hi => ?_, fun i x y => ?_⟩
  · unfold pX at *; rw [e 7 (by omega)]; exact a
  · have := f i hi; unfold pL at *; rw [e i (by omega)]; exact this
  · have := g i x y; unfold pL at *; rw [e i (by omega)]; exact this
theorem Bk.cg {z : Hp} {r : Nat} {S S' : Nat → Int} (hn : sN S ≤ 30) (ht : sT S ≤ 61) (h : Bk z r S) (e : ∀ j, j < 608 → S' j = S j) : Bk z r S' := by
  obtain ⟨h1, h2, h3, h4, h5, h6⟩ := h
  have en : sN S' = sN S := by unfold sN; rw [e 0 (by omega)]
  have et : sT S' = sT S := by unfold sT; rw [e 1 (by omega)]
  refine ⟨by rw [e 0 (by omega)]; exact h1, by rw [e 1 (by omega)]; exact h2, ?_, fun t htt => ?_, fun p hp => ?_, h6⟩
  · rw [et]; exact h3.cg (fun t htt w hw => e _ (by omega))
  · rw [et] at htt
    have := h4 t htt
    unfold fV at *
    rw [e _ (by omega)]; exact this
  · rw [en] at hp
    exact (h5 p hp).cg (fun i hi => e _ (by omega))
theorem Inv.chg {zC zM zC' zM' : Hp} {S' : Nat → Int} (h : Inv zC zM) (hS : SOk 60 S') (hb : Bk zC' 1 S') (hC : ∀ c, 41 ≤ c → c ≠ 81 → c ≠ 85 → zC' c = zC c) (h02 : zC' 0 2 = zC 0 2) (hu : zC' 0 8 = 0 ∧ zC' 0 11 = 0) (hM1 : zM' 1 = S') (hR : RefW zM' S') (m0 : ∀ j, j = 2 ∨ j = 7 → zM' 0 j = zM 0 j) (mc : ∀ c, c = 2 ∨ c = 4 ∨ c = 18 ∨ c = 19 → zM' c = zM c) (t : ITp zC' zM') : Inv zC' zM' := by
  obtain ⟨_, _, h3, _, h5, h6, _, _⟩ := h
  unfold Inv
  rw [hM1]
  refine ⟨hS, hb, ?_, t, h5.to (hC 83 (by omega) (by omega) (by omega)) (hC 84 (by omega) (by omega) (by omega)) (mc 4 (by omega)) (m0 7 (by omega)), h6.to (fun c a b => hC c (by omega) (by omega) (by omega)) (mc 18 (by omega)) (mc 19 (by omega)), hR, Or.inl hu⟩
  unfold IKp
  rw [h02, m0 2 (by omega), mc 2 (by omega)]
  rcases h3 with h3 | ⟨a, b, c, d⟩
  · exact Or.inl h3
  · exact Or.inr ⟨a, b, c, d.to c.n.2 (fun c p q => hC c (by omega) (by omega) (by omega))⟩
theorem pt_ne {z : Hp} {c i j : Nat} {v : Int} (h : j ≠ i) : kup z c i v c j = z c j := kup_n (fun q => h q.2)
theorem inv_op6 : op6 Inv := by
  intro a1 a2 zC zM ha hb h
  have h1 := h.1
  have hn := h1.n
  have ht := h1.t
  have hB := h.2.1
  obtain ⟨b0, b1, b2, b3, b4, b5⟩ := h.2.1
  obtain ⟨r0, r1, r2, r3⟩ := rgS h1
  unfold cal_X9_live
  refine w_X0_isStatement (t := 1) ha (by rw [b1]; exact r1) (fun q => w_t rg1 ?_) (fun q => w_f rg0 ?_)
  rotate_left
  · rw [b1] at q
    exact w_X10_isStatement ha r3 (fun r => absurd r q) (fun _ => w_f rg0 ⟨rfl, h⟩)
  rw [b1] at q
  refine w_X9_isFlag hb (fun q2 => w_t rg1 ?_) (fun q2 => w_f rg0 (w_X10_isStatement ha r3 (fun _ => w_t rg1 (w_X10_isIn hb rg0 rg1 (fun r => absurd r q2) (fun _ => w_f rg0 ⟨rfl, h⟩))) (fun r => absurd q r)))
  obtain ⟨t, rfl⟩ : ∃ t : Nat, a1 = t := ⟨a1.toNat, by omega⟩
  have htt : t < sT (zM 1) := by omega
  have ho := h1.2.2.2 t htt
  have ib : inb (t : Int) 61 := ⟨by omega, by omega⟩
  have s5 : zC 40 t = fV (zM 1) t := b3 t htt
  rw [Int.toNat_natCast, s5]
  refine ⟨ib, lt_i ⟨ib, hp_i (hp_i (hp_i ?_))⟩⟩
  refine w_X10_isStatement ha r3 (fun _ => w_t rg1 (w_X10_isIn hb rg0 rg1 (fun _ => w_t rg1 (w_X10_told (w := 5) (by omega) (lt_i ⟨⟨by omega, by omega⟩, hp_i ?_⟩))) (fun r => absurd q2 r))) (fun r => absurd q r)
  rw [show (242 + 6 * (t : Int) + 5).toNat = 242 + 6 * t + 5 by omega]
  have ne : ∀ j, j ≠ 242 + 6 * t + 5 → kup zM 1 (242 + 6 * t + 5) a2 1 j = zM 1 j := fun j hj => pt_ne hj
  have eq : kup zM 1 (242 + 6 * t + 5) a2 1 (242 + 6 * t + 5) = a2 := kup_eq
  have fm : ∀ c, c ≠ 1 → kup zM 1 (242 + 6 * t + 5) a2 c = zM c := fun c hc => by funext i; exact kup_c hc
  generalize kup zM 1 (242 + 6 * t + 5) a2 = m1 at *
  have en : sN (m1 1) = sN (zM 1) := by unfold sN; rw [ne 0 (by omega)]
  have et : sT (m1 1) = sT (zM 1) := by unfold sT; rw [ne 1 (by omega)]
  have hS' : SOk 60 (m1 1) := by
    refine ⟨by rw [ne 0 (by omega)]; exact h1.1, by rw [ne 1 (by omega)]; exact h1.2.1, fun p hp => ?_, fun u hu => ?_⟩
    · rw [en] at hp
      exact (h1.2.2.1 p hp).cg (fun i hi => ne _ (by omega))
    · rw [et] at hu
      rw [en]
      have hou := h1.2.2.2 u hu
      by_cases g : u = t
      · subst g
        have x0 : fS (m1 1) u = fS (zM 1) u := ne _ (by omega)
        have x2 : fB (m1 1) u = fB (zM 1) u := ne _ (by omega)
        have x3 : fL (m1 1) u = fL (zM 1) u := ne _ (by omega)
        have x4 : fH (m1 1) u = fH (zM 1) u := ne _ (by omega)
        have x5 : fV (m1 1) u = a2 := eq
        unfold StOk
        rw [x0, x2, x3, x4, x5, ne (242 + 6 * u + 1) (by omega)]
        exact ⟨hou.1, hou.2.1, hou.2.2.1, hou.2.2.2.1, hou.2.2.2.2.1, by omega⟩
      · exact hou.cg (fun w hw => ne _ (by omega))
  refine w_X10_works (M := 60) (by omega) rfl hS' (fun u hu _ => by omega) (fun z' hR f0 fc => ⟨rfl, ?_⟩)
  have c40 : ∀ c, c ≠ 0 → c ≠ 40 → kup (kup (kup zC 40 t a2) 0 8 0) 0 11 0 c = zC c := fun c p q => by funext i; rw [kup_c p, kup_c p, kup_c q]
  refine h.chg hS' ⟨?_, ?_, ?_, fun u hu => ?_, fun p hp => ?_, fun p hp i hi => ?_⟩ (fun c p _ _ => c40 c (by omega) (by omega)) ?_ ⟨?_, kup_eq⟩ (fc 1 (by decide) (by decide)) hR (fun j hj => by rw [f0 j (by omega) (by omega) (by omega) (by omega) (by omega), fm 0 (by decide)]) (fun c hc => by rw [fc c (by omega) (by omega), fm c (by omega)]) (h.2.2.2.1.to (c40 81 (by decide) (by decide)) (c40 82 (by decide) (by decide)) (by rw [fc 3 (by decide) (by decide), fm 3 (by decide)]) (by rw [f0 6 (by decide) (by decide) (by decide) (by decide) (by decide), fm 0 (by decide)]))
  · rw [c40 1 (by decide) (by decide), ne 0 (by omega)]; exact b0
  · rw [c40 1 (by decide) (by decide), ne 1 (by omega)]; exact b1
  · rw [et]
    have := (b2.cg (S' := m1 1) (fun u hu w hw => ne _ (by omega)))
    intro u hu
    have := this u hu
    rw [c40 (1 + 34) (by decide) (by decide), c40 (1 + 35) (by decide) (by decide), c40 (1 + 36) (by decide) (by decide), c40 (1 + 37) (by decide) (by decide), c40 (1 + 38) (by decide) (by decide)]
    exact this
  · rw [et] at hu
    rw [kup_c (by decide), kup_c (by decide)]
    by_cases g : u = t
    · subst g
      show kup zC 40 u a2 40 u = fV (m1 1) u
      rw [kup_eq]; exact eq.symm
    · show kup zC 40 t a2 40 u = fV (m1 1) u
      rw [kup_n (fun q => g q.2)]
      have : fV (m1 1) u = fV (zM 1) u := ne _ (by omega)
      rw [this]; exact b3 u hu
  · rw [en] at hp
    have := (b4 p hp).cg (S' := m1 1) (fun i hi => ne _ (by omega))
    obtain ⟨x, l, y, z⟩ := this
    refine ⟨by rw [c40 (1 + 33) (by omega) (by omega)]; exact x, l, by rw [c40 (1 + 32) (by omega) (by omega)]; exact y, ?_⟩
    rw [c40 (1 + 2 + p) (by omega) (by omega)]; exact z
  · rw [c40 (1 + 2 + p) (by omega) (by omega)]; exact b5 p hp i hi
  · rw [kup_n (by decide), kup_n (by decide), kup_c (by decide)]
  · rw [kup_n (by decide), kup_eq]
