/-! PEOPLE in ORDER: both sort by putting in -/
def Ah (E : Nat → Int) (p q : Nat) : Prop := if E (4 * p) = E (4 * q) then E (4 * p + 1) < E (4 * q + 1) else E (4 * p) < E (4 * q)
def InsAt (E : Nat → Int) (p : Nat) (L L' : List Nat) : Prop := ∃ i, i ≤ L.length ∧ L' = L.take i ++ p :: L.drop i ∧ (∀ j, i ≤ j → j < L.length → Ah E p (L.getD j 0)) ∧ (i = 0 ∨ ¬ Ah E p (L.getD (i - 1) 0))
def OrdK (E : Nat → Int) (one : Nat → Prop) : Nat → List Nat → Prop
  | 0, L => L = []
  | k + 1, L' => ∃ L, OrdK E one k L ∧ ((one k ∧ InsAt E k L L') ∨ (¬ one k ∧ L' = L))
theorem InsAt.uq {E : Nat → Int} {p : Nat} {L L1 L2 : List Nat} (h1 : InsAt E p L L1) (h2 : InsAt E p L L2) : L1 = L2 := by
  obtain ⟨i, a1, a2, a3, a4⟩ := h1
  obtain ⟨j, b1, b2, b3, b4⟩ := h2
  have e : i = j := by
    rcases Nat.lt_trichotomy i j with q | q | q
    · exact absurd (a3 (j - 1) (by omega) (by omega)) (b4.resolve_left (by omega))
    · exact q
    · exact absurd (b3 (i - 1) (by omega) (by omega)) (a4.resolve_left (by omega))
  subst e
  rw [a2, b2]
theorem OrdK.uq {E : Nat → Int} {one : Nat → Prop} : ∀ (k : Nat) (L1 L2 : List Nat), OrdK E one k L1 → OrdK E one k L2 → L1 = L2
  | 0, _, _, h1, h2 => by rw [show _ = _ from h1, show _ = _ from h2]
  | k + 1, L1, L2, ⟨M1, h1, g1⟩, ⟨M2, h2, g2⟩ => by
    have := OrdK.uq k M1 M2 h1 h2
    subst this
    rcases g1 with ⟨o1, g1⟩ | ⟨o1, g1⟩ <;> rcases g2 with ⟨o2, g2⟩ | ⟨o2, g2⟩
    · exact g1.uq g2
    · exact absurd o1 o2
    · exact absurd o2 o1
    · rw [g1, g2]
theorem InsAt.mem {E : Nat → Int} {p x : Nat} {L L' : List Nat} (h : InsAt E p L L') (hx : x ∈ L') : x = p ∨ x ∈ L := by
  obtain ⟨i, a1, a2, _, _⟩ := h
  rw [a2, List.mem_append, List.mem_cons] at hx
  rcases hx with hx | hx | hx
  · exact Or.inr (List.mem_of_mem_take hx)
  · exact Or.inl hx
  · exact Or.inr (List.mem_of_mem_drop hx)
theorem InsAt.len {E : Nat → Int} {p : Nat} {L L' : List Nat} (h : InsAt E p L L') : L'.length = L.length + 1 := by
  obtain ⟨i, a1, a2, _, _⟩ := h
  rw [a2, List.length_append, List.length_cons, List.length_take, List.length_drop]
  omega
theorem OrdK.ok {E : Nat → Int} {one : Nat → Prop} : ∀ (k : Nat) (L : List Nat), OrdK E one k L → (∀ x ∈ L, x < k ∧ one x) ∧ L.length ≤ k
  | 0, L, h => by rw [show L = [] from h]; exact ⟨fun x hx => absurd hx (by simp), Nat.le_refl _⟩
  | k + 1, L', ⟨L, h, g⟩ => by
    obtain ⟨i1, i2⟩ := OrdK.ok k L h
    rcases g with ⟨o, g⟩ | ⟨o, rfl⟩
    · refine ⟨fun x hx => ?_, by rw [g.len]; omega⟩
      rcases g.mem hx with rfl | hx
      · exact ⟨by omega, o⟩
      · exact ⟨by have := (i1 x hx).1; omega, (i1 x hx).2⟩
    · exact ⟨fun x hx => ⟨by have := (i1 x hx).1; omega, (i1 x hx).2⟩, by omega⟩
/-- a row holds a list from its start -/
def Hld (z : Hp) (c : Nat) (L : List Nat) : Prop := ∀ j, j < L.length → z c j = ((L.getD j 0 : Nat) : Int)
/-- while p is put in: those from i on have moved by one -/
def Mid (E : Nat → Int) (z : Hp) (c : Nat) (L : List Nat) (p i : Nat) : Prop := i ≤ L.length ∧ (∀ j, j < i → z c j = ((L.getD j 0 : Nat) : Int)) ∧ (∀ j, i ≤ j → j < L.length → z c (j + 1) = ((L.getD j 0 : Nat) : Int) ∧ Ah E p (L.getD j 0))
theorem Mid.start {E : Nat → Int} {z : Hp} {c p : Nat} {L : List Nat} (h : Hld z c L) : Mid E z c L p L.length := ⟨Nat.le_refl _, h, fun j a b => absurd a (by omega)⟩
theorem Mid.step {E : Nat → Int} {z : Hp} {c p i : Nat} {L : List Nat} (h : Mid E z c L p (i + 1)) (ha : Ah E p (L.getD i 0)) : Mid E (kup z c (i + 1) (z c i)) c L p i := by
  obtain ⟨h1, h2, h3⟩ := h
  refine ⟨by omega, fun j hj => ?_, fun j a b => ?_⟩
  · rw [kup_n (fun q => absurd q.2 (by omega))]; exact h2 j (by omega)
  · by_cases e : j = i
    · subst e; exact ⟨by rw [kup_eq]; exact h2 j (by omega), ha⟩
    · rw [kup_n (fun q => e (by omega))]; exact h3 j (by omega) b
theorem Mid.last {E : Nat → Int} {z : Hp} {c p i : Nat} {L : List Nat} (h : Mid E z c L p i) (ha : i = 0 ∨ ¬ Ah E p (L.getD (i - 1) 0)) : ∃ L', InsAt E p L L' ∧ Hld (kup z c i p) c L' := by
  obtain ⟨h1, h2, h3⟩ := h
  refine ⟨_, ⟨i, h1, rfl, fun j a b => (h3 j a b).2, ha⟩, fun j hj => ?_⟩
  rw [List.length_append, List.length_cons, List.length_take, List.length_drop] at hj
  have lt : (L.take i).length = i := by rw [List.length_take]; omega
  rw [List.getD_eq_getElem?_getD]
  rcases Nat.lt_trichotomy j i with q | q | q
  · rw [kup_n (fun r => absurd r.2 (by omega)), List.getElem?_append_left (by omega), List.getElem?_take_of_lt q, ← List.getD_eq_getElem?_getD]
    exact h2 j q
  · subst q
    rw [kup_eq, List.getElem?_append_right (by omega), lt, Nat.sub_self]; rfl
  · obtain ⟨d, rfl⟩ : ∃ d, j = i + (d + 1) := ⟨j - i - 1, by omega⟩
    rw [kup_n (fun r => absurd r.2 (by omega)), List.getElem?_append_right (by omega), lt, show i + (d + 1) - i = d + 1 by omega, List.getElem?_cons_succ, List.getElem?_drop, ← List.getD_eq_getElem?_getD]
    exact (h3 (i + d) (by omega) (by omega)).1
theorem w_X8_isBornAhead {t p q : Nat} {E : Nat → Int} {z : Hp} {K : Int → Prop} (hp : p < 30) (hq : q < 30) (hE : ∀ e, e < 240 → z (t + 13 + 1) e = E e) (hr : ∀ e, e < 240 → rg (E e)) (h1 : Ah E p q → K 1) (h0 : ¬ Ah E p q → K 0) : cal_X8_isBornAhead t p q z K := by
  unfold cal_X8_isBornAhead
  rw [show (4 * (p : Int)) = ((4 * p : Nat) : Int) by omega, show (4 * (q : Int)) = ((4 * q : Nat) : Int) by omega, show (((4 * p : Nat) : Int) + 1) = ((4 * p + 1 : Nat) : Int) by omega, show (((4 * q : Nat) : Int) + 1) = ((4 * q + 1 : Nat) : Int) by omega, Int.toNat_natCast, Int.toNat_natCast, Int.toNat_natCast, Int.toNat_natCast, hE _ (by omega), hE _ (by omega), hE _ (by omega), hE _ (by omega)]
  have ib : ∀ e : Nat, e < 240 → inb (e : Int) 242 := fun e he => ⟨by omega, by omega⟩
  unfold Ah at h1 h0
  refine ⟨ib _ (by omega), ib _ (by omega), hr _ (by omega), hr _ (by omega), w_ite (fun e => ⟨ib _ (by omega), ib _ (by omega), hr _ (by omega), hr _ (by omega), ?_⟩) (fun e => ⟨ib _ (by omega), ib _ (by omega), hr _ (by omega), hr _ (by omega), ?_⟩)⟩
  · rw [if_pos e] at h1 h0
    exact w_ite (fun r => h0 (by omega)) (fun r => h1 (by omega))
  · rw [if_neg e] at h1 h0
    exact w_ite (fun r => h0 (by omega)) (fun r => h1 (by omega))
theorem w_X10_isBornAhead {p q : Nat} {E : Nat → Int} {z : Hp} {K : Int → Prop} (hp : p < 30) (hq : q < p) (hE : ∀ e, e < 240 → z 10 e = E e) (hr : ∀ e, e < 240 → rg (E e)) (h1 : Ah E p q → K 1) (h0 : ¬ Ah E p q → K 0) : cal_X10_isBornAhead p q z K := by
  refine w_born (lt_i (w_born (lt_i ?_)))
  rw [show (2 * (2 * (p : Int))) = ((4 * p : Nat) : Int) by omega, show (2 * (2 * (q : Int))) = ((4 * q : Nat) : Int) by omega, show (((4 * p : Nat) : Int) + 1) = ((4 * p + 1 : Nat) : Int) by omega, show (((4 * q : Nat) : Int) + 1) = ((4 * q + 1 : Nat) : Int) by omega, Int.toNat_natCast, Int.toNat_natCast, Int.toNat_natCast, Int.toNat_natCast, hE _ (by omega), hE _ (by omega), hE _ (by omega), hE _ (by omega)]
  have ib : ∀ e : Nat, e < 240 → inb (e : Int) 240 := fun e he => ⟨by omega, by omega⟩
  unfold Ah at h1 h0
  refine ⟨ib _ (by omega), ib _ (by omega), hr _ (by omega), hr _ (by omega), w_ite (fun e => ⟨ib _ (by omega), ib _ (by omega), hr _ (by omega), hr _ (by omega), ?_⟩) (fun e => ⟨ib _ (by omega), ib _ (by omega), hr _ (by omega), hr _ (by omega), ?_⟩)⟩
  · rw [if_pos e] at h1 h0
    refine w_ite (fun r => ⟨⟨by omega, by omega⟩, ⟨by omega, by omega⟩, w_ite (fun _ => h0 (by omega)) (fun r' => absurd hq (by omega))⟩) (fun r => ⟨ib _ (by omega), ib _ (by omega), hr _ (by omega), hr _ (by omega), w_ite (fun r' => h0 (by omega)) (fun r' => h1 (by omega))⟩)
  · rw [if_neg e] at h1 h0
    exact w_ite (fun r => h0 (by omega)) (fun r => h1 (by omega))
theorem w_X10_orders {z : Hp} {K : Int → Hp → Prop} {n : Nat} {g : Nat → Nat} {E : Nat → Int} (hn : n ≤ 30) (h0 : z 1 0 = n) (h6 : Row z 6 g) (hg : ∀ p, g p ≤ p) (hE : ∀ e, e < 240 → z 10 e = E e) (hr : ∀ e, e < 240 → rg (E e)) (k : ∀ (L : List Nat) (z' : Hp), OrdK E (fun p => g p = p) n L → Hld z' 16 L → (∀ c, c ≠ 16 → z' c = z c) → K (L.length : Nat) z') : cal_X10_orders z K := by
  show LP2 _ 0 0 z
  refine LP2_for n (fun j a z' => ∃ L, a = ((L.length : Nat) : Int) ∧ OrdK E (fun p => g p = p) j L ∧ Hld z' 16 L ∧ ∀ c, c ≠ 16 → z' c = z c) 0 rfl (by omega) ⟨[], rfl, rfl, fun j hj => absurd hj (by simp), fun _ _ => rfl⟩ (fun X j a z1 hj hI hX => ?_) (fun X a z1 hI => ?_)
  · obtain ⟨L, rfl, i2, i3, i4⟩ := hI
    have ok := OrdK.ok j L i2
    have e1 : z1 1 0 = n := by rw [i4 1 (by decide)]; exact h0
    have e6 := h6.to (i4 6 (by decide))
    have vj := e6 j (by omega)
    have gj := hg j
    refine w_if2 ⟨by omega, by omega⟩ (by rw [e1]; constructor <;> omega) (fun e => absurd e (by rw [e1]; omega)) (fun _ => ?_)
    refine w_X10_isOne (by omega) (by rw [vj]; constructor <;> omega) (fun q => ?_) (fun q => ?_)
    · refine jn_i (fun J => ∀ L' z', InsAt E j L L' → Hld z' 16 L' → (∀ c, c ≠ 16 → z' c = z c) → J ((L'.length : Nat) : Int) z') (fun L' z' p1 p2 p3 => lt_i (hX _ _ ⟨L', rfl, ⟨L, i2, Or.inl ⟨by omega, p1⟩⟩, p2, p3⟩)) (fun J hJ => w_t rg1 (lt_i ?_))
      refine LP1_ind (fun m v z' => v = (m : Int) ∧ Mid E z' 16 L j m ∧ ∀ c, c ≠ 16 → z' c = z c) (fun Y m v z2 hI hY => ?_) (n := L.length) ⟨rfl, Mid.start i3, i4⟩
      obtain ⟨rfl, k1, k2⟩ := hI
      have ml := k1.1
      refine jn_i (fun (J' : Int → Hp → Prop) => ∀ z', Mid E z' 16 L j m → (m = 0 ∨ ¬ Ah E j (L.getD (m - 1) 0)) → (∀ c, c ≠ 16 → z' c = z c) → J' m z') (fun z' p1 p2 p3 => ?_) (fun J' hJ' => ?_)
      · refine ⟨⟨by omega, by omega⟩, hp_i (lt_i ?_)⟩
        rw [Int.toNat_natCast]
        obtain ⟨L', c1, c2⟩ := p1.last p2
        have := hJ L' (kup z' 16 m j) c1 c2 (fun c hc => by funext i; rw [kup_c hc, p3 c hc])
        rw [c1.len] at this
        exact this
      · refine w_if ⟨by omega, by omega⟩ (fun e => hJ' z2 k1 (Or.inl (by omega)) k2) (fun e => ?_)
        obtain ⟨m', rfl⟩ : ∃ m', m = m' + 1 := ⟨m - 1, by omega⟩
        rw [show (((m' + 1 : Nat) : Int) - 1) = (m' : Int) by omega, show (((m' + 1 : Nat) : Int) + -1) = (m' : Int) by omega, Int.toNat_natCast, Int.toNat_natCast]
        have vq := k1.2.1 m' (by omega)
        have mq := ok.1 _ (getD_mem (show m' < L.length by omega))
        refine ⟨⟨by omega, by omega⟩, ?_⟩
        rw [vq]
        refine w_X10_isBornAhead (by omega) mq.1 (fun e he => by rw [k2 10 (by decide)]; exact hE e he) hr (fun ha => w_t rg1 ⟨⟨by omega, by omega⟩, ⟨by omega, by omega⟩, hp_i (lt_i ?_)⟩) (fun ha => w_f rg0 (hJ' z2 k1 (Or.inr ha) k2))
        have st := k1.step ha
        rw [vq] at st
        exact hY m' m' _ (by omega) ⟨rfl, st, fun c hc => by funext i; rw [kup_c hc, k2 c hc]⟩
    · exact w_f rg0 (lt_i (hX _ z1 ⟨L, rfl, ⟨L, i2, Or.inr ⟨by omega, rfl⟩⟩, i3, i4⟩))
  · obtain ⟨L, rfl, i2, i3, i4⟩ := hI
    have e1 : z1 1 0 = n := by rw [i4 1 (by decide)]; exact h0
    exact w_if2 ⟨by omega, by omega⟩ (by rw [e1]; constructor <;> omega) (fun _ => k L z1 i2 i3 i4) (fun e => absurd e (by rw [e1]; omega))
theorem w_X8_sortPeople {t n : Nat} {z : Hp} {K : Hp → Prop} {g : Nat → Nat} {E : Nat → Int} (hn : n ≤ 30) (hgg : gGood n g) (hall : z (t + 2) 1 = (allK g n : Nat)) (hE : ∀ e, e < 240 → z (t + 13 + 1) e = E e) (hr : ∀ e, e < 240 → rg (E e)) (k : ∀ (L : List Nat) (z' : Hp), OrdK E (fun p => g p = p) n L → Hld z' (t + 22) L → (∀ c, c ≠ t + 22 → z' c = z c) → K z') : cal_X8_sortPeople t z K := by
  have all30 := allK_lt (g := g) (fun p hp => by have := hgg.1 p; omega) n hn
  show LP2 _ 0 0 z
  refine LP2_for 30 (fun j a z' => ∃ L, a = ((L.length : Nat) : Int) ∧ OrdK E (fun p => g p = p) (min j n) L ∧ Hld z' (t + 22) L ∧ ∀ c, c ≠ t + 22 → z' c = z c) 0 rfl (by omega) ⟨[], rfl, by rw [Nat.zero_min]; rfl, fun j hj => absurd hj (by simp), fun _ _ => rfl⟩ (fun X j a z1 hj hI hX => ?_) (fun X a z1 hI => ?_)
  · obtain ⟨L, rfl, i2, i3, i4⟩ := hI
    have ok := OrdK.ok _ L i2
    have ea : z1 (t + 2) 1 = (allK g n : Nat) := by rw [i4 (t + 2) (by omega)]; exact hall
    refine w_if ⟨by omega, by omega⟩ (fun e => absurd e (by omega)) (fun _ => ?_)
    rw [ea]
    refine w_X1_has all30 (by omega) (fun hb => ?_) (fun hb => ?_)
    · have hp := (allK_bit hgg).mp hb
      rw [show min j n = j by omega] at i2 ok
      refine jn_i (fun J => ∀ L' z', InsAt E j L L' → Hld z' (t + 22) L' → (∀ c, c ≠ t + 22 → z' c = z c) → J ((L'.length : Nat) : Int) z') (fun L' z' p1 p2 p3 => lt_i (hX _ _ ⟨L', rfl, by rw [show min (j + 1) n = j + 1 by omega]; exact ⟨L, i2, Or.inl ⟨hp.2, p1⟩⟩, p2, p3⟩)) (fun J hJ => w_t rg1 (lt_i (lt_i ?_)))
      refine LP2_ind (fun m v w z' => v = (m : Int) ∧ w = (m : Int) ∧ Mid E z' (t + 22) L j m ∧ ∀ c, c ≠ t + 22 → z' c = z c) (fun Y m v w z2 hI hY => ?_) (n := L.length) ⟨rfl, rfl, Mid.start i3, i4⟩
      obtain ⟨rfl, rfl, k1, k2⟩ := hI
      have ml := k1.1
      refine jn_i (fun (J' : Int → Hp → Prop) => ∀ z', Mid E z' (t + 22) L j m → (m = 0 ∨ ¬ Ah E j (L.getD (m - 1) 0)) → (∀ c, c ≠ t + 22 → z' c = z c) → J' m z') (fun z' p1 p2 p3 => ?_) (fun J' hJ' => ?_)
      · refine ⟨⟨by omega, by omega⟩, hp_i (lt_i ?_)⟩
        rw [Int.toNat_natCast]
        obtain ⟨L', c1, c2⟩ := p1.last p2
        have := hJ L' (kup z' (t + 22) m j) c1 c2 (fun c hc => by funext i; rw [kup_c hc, p3 c hc])
        rw [c1.len] at this
        exact this
      · refine w_if ⟨by omega, by omega⟩ (fun e => hJ' z2 k1 (Or.inl (by omega)) k2) (fun e => ?_)
        obtain ⟨m', rfl⟩ : ∃ m', m = m' + 1 := ⟨m - 1, by omega⟩
        rw [show (((m' + 1 : Nat) : Int) - 1) = (m' : Int) by omega, show (((m' + 1 : Nat) : Int) + -1) = (m' : Int) by omega, Int.toNat_natCast, Int.toNat_natCast]
        have vq := k1.2.1 m' (by omega)
        have mq := ok.1 _ (getD_mem (show m' < L.length by omega))
        refine ⟨⟨by omega, by omega⟩, ?_⟩
        rw [vq]
        refine w_X8_isBornAhead (by omega) (by omega) (fun e he => by rw [k2 (t + 13 + 1) (by omega)]; exact hE e he) hr (fun ha => w_t rg1 ⟨⟨by omega, by omega⟩, ⟨by omega, by omega⟩, hp_i (lt_i (lt_i ?_))⟩) (fun ha => w_f rg0 (hJ' z2 k1 (Or.inr ha) k2))
        have st := k1.step ha
        rw [vq] at st
        exact hY m' m' m' _ (by omega) ⟨rfl, rfl, st, fun c hc => by funext i; rw [kup_c hc, k2 c hc]⟩
    · refine w_f rg0 (lt_i (hX _ z1 ⟨L, rfl, ?_, i3, i4⟩))
      by_cases c : j < n
      · rw [show min j n = j by omega] at i2
        rw [show min (j + 1) n = j + 1 by omega]
        exact ⟨L, i2, Or.inr ⟨fun q => (by rw [(allK_bit hgg).mpr ⟨c, q⟩] at hb; cases hb), rfl⟩⟩
      · rw [show min j n = n by omega] at i2
        rw [show min (j + 1) n = n by omega]
        exact i2
  · obtain ⟨L, rfl, i2, i3, i4⟩ := hI
    rw [show min 30 n = n by omega] at i2
    exact w_if ⟨by omega, by omega⟩ (fun _ => k L z1 i2 i3 i4) (fun e => absurd e (by omega))
theorem ord_len {E : Nat → Int} {n : Nat} {g : Nat → Nat} (hgg : gGood n g) (hn : n ≤ 30) {L : List Nat} (h : OrdK E (fun p => g p = p) n L) : L.length = cntB (allK g n) 30 := by
  have gen : ∀ k, k ≤ n → ∀ L, OrdK E (fun p => g p = p) k L → L.length = cntB (allK g n) k := fun k => by
    induction k with
    | zero => intro _ L h; rw [show L = [] from h]; rfl
    | succ k ih =>
      rintro hk L' ⟨L, h, q⟩
      have := ih (by omega) L h
      rw [cntB]
      rcases q with ⟨o, q⟩ | ⟨o, rfl⟩
      · rw [q.len, if_pos ((allK_bit hgg).mpr ⟨by omega, o⟩), this]
      · rw [if_neg (fun q => o ((allK_bit hgg).mp q).2), this]; rfl
  rw [gen n (Nat.le_refl _) L h]
  have up : ∀ d, cntB (allK g n) (n + d) = cntB (allK g n) n := fun d => by
    induction d with
    | zero => rfl
    | succ d ih => rw [show n + (d + 1) = (n + d) + 1 by omega, cntB, ih, if_neg (fun q => absurd ((allK_bit hgg).mp q).1 (by omega))]; rfl
  rw [← up (30 - n), show n + (30 - n) = 30 by omega]
