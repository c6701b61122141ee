/-! a sex is told anew; the book is kept and taken back -/
theorem inv_op4 : op4 Inv := by
  intro a1 a2 zC zM ha hb h
  have h1 := h.1
  have hn := h1.n
  have ht := h1.t
  obtain ⟨b0, b1, b2, b3, b4, b5⟩ := h.2.1
  obtain ⟨r0, r1, r2, r3⟩ := rgS h1
  unfold cal_X9_sex
  refine w_X0_isPerson (t := 1) ha (by rw [b0]; exact r0) (fun q => w_t rg1 ?_) (fun q => w_f rg0 ?_)
  rotate_left
  · rw [b0] at q
    exact w_X10_isPerson ha r2 (fun r => absurd r q) (fun _ => w_f rg0 ⟨rfl, h⟩)
  rw [b0] at q
  refine w_X9_isSex hb (fun q2 => w_t rg1 ?_) (fun q2 => w_f rg0 (w_X10_isPerson ha r2 (fun _ => w_t rg1 (w_X10_isIn hb rg0 ⟨by omega, by omega⟩ (fun r => absurd r q2) (fun _ => w_f rg0 ⟨rfl, h⟩))) (fun r => absurd q r)))
  obtain ⟨p, rfl⟩ : ∃ p : Nat, a1 = p := ⟨a1.toNat, by omega⟩
  have hp : p < sN (zM 1) := by omega
  have ib : inb (p : Int) 30 := ⟨by omega, by omega⟩
  have s5 : zC 34 p = pX (zM 1) p := (b4 p hp).1
  rw [Int.toNat_natCast, s5]
  refine ⟨ib, lt_i ⟨ib, hp_i (hp_i (hp_i ?_))⟩⟩
  refine w_X10_isPerson ha r2 (fun _ => w_t rg1 (w_X10_isIn hb rg0 ⟨by omega, by omega⟩ (fun _ => w_t rg1 ?_) (fun r => absurd q2 r))) (fun r => absurd q r)
  have i6 : inb (2 + 8 * (p : Int) + 7) 608 := ⟨by omega, by omega⟩
  refine ⟨i6, lt_i ⟨i6, hp_i ?_⟩⟩
  rw [show (2 + 8 * (p : Int) + 7).toNat = 2 + 8 * p + 7 by omega]
  have ne : ∀ j, j ≠ 2 + 8 * p + 7 → kup zM 1 (2 + 8 * p + 7) a2 1 j = zM 1 j := fun j hj => pt_ne hj
  have eq : kup zM 1 (2 + 8 * p + 7) a2 1 (2 + 8 * p + 7) = a2 := kup_eq
  have fm : ∀ c, c ≠ 1 → kup zM 1 (2 + 8 * p + 7) a2 c = zM c := fun c hc => by funext i; exact kup_c hc
  generalize kup zM 1 (2 + 8 * p + 7) a2 = m1 at *
  have en : sN (m1 1) = sN (zM 1) := by unfold sN; rw [ne 0 (by omega)]
  have et : sT (m1 1) = sT (zM 1) := by unfold sT; rw [ne 1 (by omega)]
  have lo : ∀ i u, i < 7 → pL (m1 1) u i = pL (zM 1) u i := fun i u hi => ne _ (by omega)
  have hS' : SOk 60 (m1 1) := by
    refine ⟨by rw [ne 0 (by omega)]; exact h1.1, by rw [ne 1 (by omega)]; exact h1.2.1, fun u hu => ?_, fun u hu => ?_⟩
    · rw [en] at hu
      have hou := h1.2.2.1 u hu
      by_cases g : u = p
      · subst g
        obtain ⟨⟨l, x1, x2, x3, x4⟩, _⟩ := hou
        refine ⟨⟨l, x1, x2, fun i hi => ?_, fun i a b => ?_⟩, ?_⟩
        · rw [lo i u (by omega)]; exact x3 i hi
        · rw [lo i u (by omega)]; exact x4 i a b
        · unfold pX; rw [eq]; exact q2
      · exact hou.cg (fun i hi => ne _ (by omega))
    · rw [et] at hu
      rw [en]
      exact (h1.2.2.2 u hu).cg (fun w hw => ne _ (by omega))
  refine w_X10_works (M := 60) (by omega) rfl hS' (fun u hu _ => by omega) (fun z' hR f0 fc => ⟨rfl, ?_⟩)
  have c40 : ∀ c, c ≠ 0 → c ≠ 34 → kup (kup (kup zC 34 p a2) 0 8 0) 0 11 0 c = zC c := fun c p q => by funext i; rw [kup_c p, kup_c p, kup_c q]
  refine h.chg hS' ⟨?_, ?_, ?_, fun u hu => ?_, fun u hu => ?_, fun p hp i hi => ?_⟩ (fun c p _ _ => c40 c (by omega) (by omega)) ?_ ⟨?_, kup_eq⟩ (fc 1 (by decide) (by decide)) hR (fun j hj => by rw [f0 j (by omega) (by omega) (by omega) (by omega) (by omega), fm 0 (by decide)]) (fun c hc => by rw [fc c (by omega) (by omega), fm c (by omega)]) (h.2.2.2.1.to (c40 81 (by decide) (by decide)) (c40 82 (by decide) (by decide)) (by rw [fc 3 (by decide) (by decide), fm 3 (by decide)]) (by rw [f0 6 (by decide) (by decide) (by decide) (by decide) (by decide), fm 0 (by decide)]))
  · rw [c40 1 (by decide) (by decide), ne 0 (by omega)]; exact b0
  · rw [c40 1 (by decide) (by decide), ne 1 (by omega)]; exact b1
  · rw [et]
    have := (b2.cg (S' := m1 1) (fun u hu w hw => ne _ (by omega)))
    intro u hu
    have := this u hu
    rw [c40 (1 + 34) (by decide) (by decide), c40 (1 + 35) (by decide) (by decide), c40 (1 + 36) (by decide) (by decide), c40 (1 + 37) (by decide) (by decide), c40 (1 + 38) (by decide) (by decide)]
    exact this
  · rw [et] at hu
    rw [c40 (1 + 39) (by decide) (by decide)]
    have : fV (m1 1) u = fV (zM 1) u := ne _ (by omega)
    rw [this]; exact b3 u hu
  · rw [en] at hu
    obtain ⟨x, l, y, z1, z2, z3, z4⟩ := b4 u hu
    refine ⟨?_, l, by rw [c40 (1 + 32) (by decide) (by decide)]; exact y, z1, z2, fun i hi => ?_, fun i a b => ?_⟩
    · rw [kup_c (by decide), kup_c (by decide)]
      by_cases g : u = p
      · subst g
        show kup zC 34 u a2 34 u = pX (m1 1) u
        rw [kup_eq]; exact eq.symm
      · show kup zC 34 p a2 34 u = pX (m1 1) u
        rw [kup_n (fun q => g q.2)]
        have : pX (m1 1) u = pX (zM 1) u := ne _ (by omega)
        rw [this]; exact x
    · rw [c40 (1 + 2 + u) (by omega) (by omega), lo i u (by omega)]; exact z3 i hi
    · rw [lo i u (by omega)]; exact z4 i a b
  · rw [c40 (1 + 2 + p) (by omega) (by omega)]; exact b5 p hp i hi
  · rw [kup_n (by decide), kup_n (by decide), kup_c (by decide)]
  · rw [kup_n (by decide), kup_eq]
theorem w_X10_copies {a b : Nat} {z : Hp} {K : Hp → Prop} (hab : a ≠ b) (k : ∀ z' : Hp, (∀ j, j < 608 → z' b j = z a j) → (∀ c, c ≠ b → z' c = z c) → K z') : cal_X10_copies a b z K := by
  refine lt_i (LP1_for 608 (fun j z' => (∀ i, i < j → z' b i = z a i) ∧ ∀ c, c ≠ b → z' c = z c) 0 rfl (by omega) ⟨fun i hi => absurd hi (by omega), fun _ _ => rfl⟩ (fun X j z1 hj hI hX => ?_) (fun X z1 hI => ?_))
  · refine w_if ⟨by omega, by omega⟩ (fun e => absurd e (by omega)) (fun _ => ⟨⟨by omega, by omega⟩, ⟨by omega, by omega⟩, hp_i (lt_i (hX _ ⟨fun i hi => ?_, fun c hc => ?_⟩))⟩)
    · rw [Int.toNat_natCast, hI.2 a hab]
      by_cases g : i = j
      · subst g; rw [kup_eq]
      · rw [kup_n (fun q => g q.2)]; exact hI.1 i (by omega)
    · rw [← hI.2 c hc]; funext i; exact kup_c hc
  · exact w_if ⟨by omega, by omega⟩ (fun _ => k z1 hI.1 hI.2) (fun e => absurd e (by omega))
theorem kcp_c {z : Hp} {a b n c : Nat} (h : c ≠ b) : kcp z a b 0 0 n c = z c := by
  funext i
  unfold kcp
  rw [if_neg (fun q => h q.1)]
theorem kcp_e {z : Hp} {a b n i : Nat} (h : i < n) : kcp z a b 0 0 n b i = z a i := by
  unfold kcp
  rw [if_pos ⟨rfl, by omega, by omega⟩]
  congr 1
  omega
theorem w_X0_copyFrom {t r : Nat} {z : Hp} {K : Hp → Prop} (hd : r + 40 ≤ t ∨ t + 40 ≤ r) (hb : ∀ p, p < 30 → ∀ i, i < 7 → by8 (z (r + 2 + p) i)) (k : ∀ z' : Hp, (z' t 0 = z r 0 ∧ z' t 1 = z r 1) → (∀ p, p < 30 → ∀ i, i < 7 → z' (t + 2 + p) i = z (r + 2 + p) i) → (∀ i, i < 30 → z' (t + 32) i = z (r + 32) i ∧ z' (t + 33) i = z (r + 33) i) → (∀ i, i < 60 → z' (t + 34) i = z (r + 34) i ∧ z' (t + 35) i = z (r + 35) i ∧ z' (t + 36) i = z (r + 36) i ∧ z' (t + 37) i = z (r + 37) i ∧ z' (t + 38) i = z (r + 38) i ∧ z' (t + 39) i = z (r + 39) i) → (∀ c, (c < t ∨ t + 39 < c) → z' c = z c) → K z') : cal_X0_copyFrom t r z K := by
  refine hp_i (hp_i (lt_i (LP1_for 30 (fun j z' => (z' t 0 = z r 0 ∧ z' t 1 = z r 1) ∧ (∀ p, p < j → ∀ i, i < 7 → z' (t + 2 + p) i = z (r + 2 + p) i) ∧ ∀ c, c < t ∨ t + 39 < c → z' c = z c) 0 rfl (by omega) ⟨⟨?_, ?_⟩, fun p hp => absurd hp (by omega), fun c hc => ?_⟩ (fun X j z1 hj hI hX => ?_) (fun X z1 hI => ?_))))
  · rw [kup_n (fun q => absurd q.2 (by omega)), kup_eq]
  · rw [kup_eq, kup_c (by omega)]
  · funext i; rw [kup_c (by omega), kup_c (by omega)]
  · have ee : ∀ c, r ≤ c → c < r + 40 → z1 c = z c := fun c h1 h2 => hI.2.2 c (by omega)
    refine w_if ⟨by omega, by omega⟩ (fun e => absurd e (by omega)) (fun _ => ⟨⟨by omega, by omega⟩, ⟨by omega, by omega⟩, ?_, hp_i (lt_i (hX _ ⟨?_, fun p hp i hi => ?_, fun c hc => ?_⟩))⟩)
    · intro i hi
      rw [Int.toNat_natCast, show r + 1 + 1 + j = r + 2 + j by omega, ee _ (by omega) (by omega)]; exact hb j hj i hi
    · rw [Int.toNat_natCast, kcp_c (by omega)]; exact hI.1
    · rw [Int.toNat_natCast, show r + 1 + 1 + j = r + 2 + j by omega, show t + 1 + 1 + j = t + 2 + j by omega]
      by_cases g : p = j
      · subst g
        rw [kcp_e hi, ee _ (by omega) (by omega)]
      · rw [kcp_c (by omega)]; exact hI.2.1 p (by omega) i hi
    · rw [Int.toNat_natCast, kcp_c (by omega)]; exact hI.2.2 c hc
  · have ee : ∀ c, r ≤ c → c < r + 40 → z1 c = z c := fun c h1 h2 => hI.2.2 c (by omega)
    refine w_if ⟨by omega, by omega⟩ (fun _ => hp_i (hp_i (hp_i (hp_i (hp_i (hp_i (hp_i (hp_i (k _ ?_ (fun p hp i hi => ?_) (fun i hi => ⟨?_, ?_⟩) (fun i hi => ⟨?_, ?_, ?_, ?_, ?_, ?_⟩) (fun c hc => ?_)))))))))) (fun e => absurd e (by omega))
    · rw [kcp_c (by omega), kcp_c (by omega), kcp_c (by omega), kcp_c (by omega), kcp_c (by omega), kcp_c (by omega), kcp_c (by omega), kcp_c (by omega)]; exact hI.1
    · rw [kcp_c (by omega), kcp_c (by omega), kcp_c (by omega), kcp_c (by omega), kcp_c (by omega), kcp_c (by omega), kcp_c (by omega), kcp_c (by omega)]; exact hI.2.1 p hp i hi
    · rw [kcp_c (by omega), kcp_c (by omega), kcp_c (by omega), kcp_c (by omega), kcp_c (by omega), kcp_c (by omega), kcp_c (by omega), kcp_e hi, ee _ (by omega) (by omega)]
    · rw [kcp_c (by omega), kcp_c (by omega), kcp_c (by omega), kcp_c (by omega), kcp_c (by omega), kcp_c (by omega), kcp_e hi, kcp_c (by omega), ee _ (by omega) (by omega)]
    · rw [kcp_c (by omega), kcp_c (by omega), kcp_c (by omega), kcp_c (by omega), kcp_c (by omega), kcp_e hi, kcp_c (by omega), kcp_c (by omega), ee _ (by omega) (by omega)]
    · rw [kcp_c (by omega), kcp_c (by omega), kcp_c (by omega), kcp_c (by omega), kcp_e hi, kcp_c (by omega), kcp_c (by omega), kcp_c (by omega), ee _ (by omega) (by omega)]
    · rw [kcp_c (by omega), kcp_c (by omega), kcp_c (by omega), kcp_e hi, kcp_c (by omega), kcp_c (by omega), kcp_c (by omega), kcp_c (by omega), ee _ (by omega) (by omega)]
    · rw [kcp_c (by omega), kcp_c (by omega), kcp_e hi, kcp_c (by omega), kcp_c (by omega), kcp_c (by omega), kcp_c (by omega), kcp_c (by omega), ee _ (by omega) (by omega)]
    · rw [kcp_c (by omega), kcp_e hi, kcp_c (by omega), kcp_c (by omega), kcp_c (by omega), kcp_c (by omega), kcp_c (by omega), kcp_c (by omega), ee _ (by omega) (by omega)]
    · rw [kcp_e hi, kcp_c (by omega), kcp_c (by omega), kcp_c (by omega), kcp_c (by omega), kcp_c (by omega), kcp_c (by omega), kcp_c (by omega), ee _ (by omega) (by omega)]
    · rw [kcp_c (by omega), kcp_c (by omega), kcp_c (by omega), kcp_c (by omega), kcp_c (by omega), kcp_c (by omega), kcp_c (by omega), kcp_c (by omega)]; exact hI.2.2 c hc
theorem w_bookCopy {t r : Nat} {S : Nat → Int} {z : Hp} {K : Hp → Prop} (hd : r + 40 ≤ t ∨ t + 40 ≤ r) (hn : sN S ≤ 30) (ht : sT S ≤ 60) (h : Bk z r S) (k : ∀ z' : Hp, Bk z' t S → (∀ c, (c < t ∨ t + 39 < c) → z' c = z c) → K z') : cal_X0_copyFrom t r z K := by
  obtain ⟨b0, b1, b2, b3, b4, b5⟩ := h
  refine w_X0_copyFrom hd b5 (fun z' e0 e1 e2 e3 ef => k z' ⟨by rw [e0.1]; exact b0, by rw [e0.2]; exact b1, fun u hu => ?_, fun u hu => ?_, fun p hp => ?_, fun p hp i hi => by rw [e1 p hp i hi]; exact b5 p hp i hi⟩ ef)
  · obtain ⟨y1, y2, y3, y4, y5, y6⟩ := e3 u (by omega)
    rw [y1, y2, y3, y4, y5]; exact b2 u hu
  · rw [(e3 u (by omega)).2.2.2.2.2]; exact b3 u hu
  · obtain ⟨x, l, y, z1, z2, z3, z4⟩ := b4 p hp
    refine ⟨by rw [(e2 p (by omega)).2]; exact x, l, by rw [(e2 p (by omega)).1]; exact y, z1, z2, fun i hi => ?_, z4⟩
    rw [e1 p (by omega) i (by omega)]; exact z3 i hi
theorem RefW.tw {z z' : Hp} {S : Nat → Int} (h : RefW z S) (e : ∀ c, 6 ≤ c → c ≤ 12 → z' c = z c) (e0 : ∀ j, j = 17 ∨ j = 18 ∨ j = 19 ∨ j = 21 → z' 0 j = z 0 j) : RefW z' S := by
  obtain ⟨ab, cl, wh, r6, r7, r8, r9, h1, h2, h3⟩ := h
  refine ⟨ab, cl, wh, r6.to (e 6 (by decide) (by decide)), r7.to (e 7 (by decide) (by decide)), r8.to (e 8 (by decide) (by decide)), r9.to (e 9 (by decide) (by decide)), h1, h2, ?_⟩
  unfold RefR at *
  rw [e 10 (by decide) (by decide), e 11 (by decide) (by decide), e 12 (by decide) (by decide), e0 17 (by decide), e0 18 (by decide), e0 19 (by decide), e0 21 (by decide)]
  exact h3
theorem inv_op39 : op39 Inv := by
  intro zC zM h
  have h1 := h.1
  have hn := h1.n
  have ht := h1.t
  refine w_bookCopy (Or.inl (by omega)) hn.2 ht.2 h.2.1 (fun z' hB hf => hp_i ?_)
  refine w_X10_copies (by decide) (fun m' e1 e2 => hp_i ?_)
  have cf : ∀ c, c ≠ 0 → (c < 41 ∨ 80 < c) → kup z' 0 2 1 c = zC c := fun c a b => by
    rw [← hf c (by omega)]; funext i; exact kup_c a
  have c0 : ∀ j, j ≠ 2 → kup z' 0 2 1 0 j = zC 0 j := fun j hj => by
    rw [kup_n (fun q => hj q.2), hf 0 (by omega)]
  have mf : ∀ c, c ≠ 0 → c ≠ 2 → kup m' 0 2 1 c = zM c := fun c a b => by
    rw [← e2 c b]; funext i; exact kup_c a
  have m0 : ∀ j, j ≠ 2 → kup m' 0 2 1 0 j = zM 0 j := fun j hj => by
    rw [kup_n (fun q => hj q.2), e2 0 (by decide)]
  refine ⟨by rw [cf 1 (by decide) (by omega), mf 1 (by decide) (by decide)]; exact h.2.1.2.1, ?_⟩
  obtain ⟨_, g2, g3, g4, g5, g6, g7, g8⟩ := h
  unfold Inv
  rw [mf 1 (by decide) (by decide)]
  refine ⟨h1, g2.to hn.2 (fun c a b => cf c (by omega) (by omega)), Or.inr ⟨kup_eq, kup_eq, ?_, ?_⟩, g4.to (cf 81 (by decide) (by omega)) (cf 82 (by decide) (by omega)) (mf 3 (by decide) (by decide)) (m0 6 (by decide)), g5.to (cf 83 (by decide) (by omega)) (cf 84 (by decide) (by omega)) (mf 4 (by decide) (by decide)) (m0 7 (by decide)), g6.to (fun c a b => cf c (by omega) (by omega)) (mf 18 (by decide) (by decide)) (mf 19 (by decide) (by decide)), ?_, g8.to (fun c hc => cf c (by omega) (by omega)) ⟨c0 8 (by decide), c0 10 (by decide), c0 11 (by decide)⟩⟩
  · rw [show kup m' 0 2 1 2 = m' 2 from by funext i; exact kup_c (by decide)]
    exact h1.cg (by decide) e1
  · rw [show kup m' 0 2 1 2 = m' 2 from by funext i; exact kup_c (by decide)]
    exact (hB.to hn.2 (fun c a b => by funext i; exact kup_c (by omega))).cg hn.2 (by omega) e1
  · exact g7.tw (fun c a b => mf c (by omega) (by omega)) (fun j hj => m0 j (by omega))
theorem inv_op40 : op40 Inv := by
  intro zC zM h
  have h1 := h.1
  rcases h.2.2.1 with ⟨k1, k2⟩ | ⟨k1, k2, k3, k4⟩
  · refine w_if (by rw [k1]; exact rg0) (fun _ => ?_) (fun e => absurd k1 e)
    exact w_if (by rw [k2]; exact rg0) (fun _ => ⟨rfl, h⟩) (fun e => absurd k2 e)
  · refine w_if (by rw [k1]; exact rg1) (fun e => absurd e (by omega)) (fun _ => ?_)
    have kn := k3.n
    have kt := k3.t
    refine w_bookCopy (Or.inr (by omega)) kn.2 kt.2 k4 (fun z' hB hf => hp_i (hp_i ?_))
    refine w_if (by rw [k2]; exact rg1) (fun e => absurd e (by omega)) (fun _ => ?_)
    refine w_X10_copies (by decide) (fun m' e1 e2 => ?_)
    have hS' : SOk 60 (m' 1) := k3.cg (by decide) e1
    have cf : ∀ c, c ≠ 0 → kup (kup z' 0 8 0) 0 11 0 c = z' c := fun c a => by funext i; rw [kup_c a, kup_c a]
    refine w_X10_works (M := 60) (by omega) rfl hS' (fun u hu _ => by have := hS'.t; omega) (fun w' hR f0 fc => ⟨?_, ?_⟩)
    · rw [cf 1 (by decide), fc 1 (by decide) (by decide), hB.2.1, e1 1 (by omega)]
    · refine h.chg hS' ((hB.to kn.2 (fun c a b => cf c (by omega))).cg kn.2 (by omega) e1) (fun c a _ _ => by rw [cf c (by omega), hf c (by omega)]) ?_ ⟨by rw [kup_n (by decide), kup_eq], kup_eq⟩ (fc 1 (by decide) (by decide)) hR (fun j hj => by rw [f0 j (by omega) (by omega) (by omega) (by omega) (by omega), e2 0 (by decide)]) (fun c hc => by rw [fc c (by omega) (by omega), e2 c (by omega)]) (h.2.2.2.1.to (by rw [cf 81 (by decide), hf 81 (by omega)]) (by rw [cf 82 (by decide), hf 82 (by omega)]) (by rw [fc 3 (by decide) (by decide), e2 3 (by decide)]) (by rw [f0 6 (by decide) (by decide) (by decide) (by decide) (by decide), e2 0 (by decide)]))
      rw [kup_n (by decide), kup_n (by decide), hf 0 (by omega)]
