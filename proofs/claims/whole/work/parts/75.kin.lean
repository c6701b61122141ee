/-! kin: how far, by whom, half, by which way -/
theorem w_seekWays {z' zM : Hp} {a b : Nat} {K : Hp → Prop} (h1 : SOk 60 (zM 1)) (st : Stl z' zM (zM 1)) (ha : a < sN (zM 1)) (hb : b < sN (zM 1)) (k : ∀ z'' : Hp, WayC z'' (dU (prOf (zM 1)) (gOf (zM 1) a)) (dU (prOf (zM 1)) (gOf (zM 1) b)) → (∀ c, c ≠ 133 → c ≠ 134 → c ≠ 135 → z'' c = z' c) → K z'') : cal_X9_seekWays a b z' K := by
  obtain ⟨ab, sx, hab, hF, _⟩ := st
  have hn := h1.n.2
  have hgg := gOf_good h1
  have R1 : Row z' 89 (gOf (zM 1)) := hF.2.2.2.1
  have R6 : Row z' 94 (prOf (zM 1)) := hF.2.2.2.2.2.1.2.2.2.1
  unfold cal_X9_seekWays
  rw [Int.toNat_natCast, Int.toNat_natCast, R1 a (by omega), R1 b (by omega)]
  exact ⟨⟨by omega, by omega⟩, ⟨by omega, by omega⟩, w_X7_seek hn (hgg.lt ha) (hgg.lt hb) (prOf_ok h1) R6 k⟩
theorem w_meets {z' zM : Hp} {a b : Nat} {K : Int → Hp → Prop} (h1 : SOk 60 (zM 1)) (st : Stl z' zM (zM 1)) (ha : a < sN (zM 1)) (hb : b < sN (zM 1)) (k : ∀ (v : Int) (y : Hp), v = (if bst (dU (prOf (zM 1)) (gOf (zM 1) a)) (dU (prOf (zM 1)) (gOf (zM 1) b)) 30 = 30 then 0 else 1) → WayM y (dU (prOf (zM 1)) (gOf (zM 1) a)) (dU (prOf (zM 1)) (gOf (zM 1) b)) → (∀ j, j ≠ 27 → y 0 j = zM 0 j) → (∀ c, c ≠ 0 → c ≠ 13 → c ≠ 14 → y c = zM c) → K v y) : cal_X10_meets a b zM K := by
  obtain ⟨ab, sx, hab, hF, ⟨r6, r7, r8, r9⟩, _⟩ := st
  have hn := h1.n
  have hgg := gOf_good h1
  exact w_X10_meets hn.2 (by omega) (by omega) (hgg.lt ha) (hgg.lt hb) (prOf_ok h1) hn.1 r6 r7 r8 (fun p _ => (prB h1 p).1) (fun p _ => (prB h1 p).2.1) k
theorem inv_way {z' zM z'' y : Hp} (h' : Inv z' zM) (f : ∀ c, c ≠ 133 → c ≠ 134 → c ≠ 135 → z'' c = z' c) (g0 : ∀ j, j ≠ 27 → y 0 j = zM 0 j) (g : ∀ c, c ≠ 0 → c ≠ 13 → c ≠ 14 → y c = zM c) : Inv z'' y :=
  (h'.scr (fun c _ _ q => f c (by omega) (by omega) (by omega))).scrM (fun c c0 _ q => g c c0 (by omega) (by omega)) (fun j _ _ _ q _ => g0 j q)
theorem inv_op23 : op23 Inv := by
  intro a1 a2 zC zM ha hb h
  have h1 := h.1
  have hn := h1.n
  have b0 := h.2.1.1
  obtain ⟨r0, r1, r2, r3⟩ := rgS h1
  unfold cal_X9_kin
  refine w_X9_arePersons ha hb (by rw [b0]; exact r0) (fun q => w_t rg1 ?_) (fun q => w_f rg0 ?_)
  rotate_left
  · rw [b0] at q
    exact w_X10_areTwo ha hb r2 (fun r => absurd r q) (fun _ => w_f rg0 ⟨rfl, h⟩)
  rw [b0] at q
  refine w_settle h (fun z' h' _ st _ => ?_)
  obtain ⟨a, rfl⟩ : ∃ a : Nat, a1 = a := ⟨a1.toNat, by omega⟩
  obtain ⟨b, rfl⟩ : ∃ b : Nat, a2 = b := ⟨a2.toNat, by omega⟩
  have hpa : a < sN (zM 1) := by omega
  have hpb : b < sN (zM 1) := by omega
  refine w_seekWays h1 st hpa hpb (fun z'' hW hf => ?_)
  have ref : ∀ K : Int → Hp → Prop, (∀ (v : Int) (y : Hp), v = (if bst (dU (prOf (zM 1)) (gOf (zM 1) a)) (dU (prOf (zM 1)) (gOf (zM 1) b)) 30 = 30 then 0 else 1) → WayM y (dU (prOf (zM 1)) (gOf (zM 1) a)) (dU (prOf (zM 1)) (gOf (zM 1) b)) → Inv z'' y → (rg v ∧ if v = 0 then (K (-5) y) else (inb (y 0 27) 30 ∧ inb (y 0 27) 30 ∧ K ((100 * (y 13 (y 0 27).toNat)) + (y 14 (y 0 27).toNat)) y))) → cal_X10_kin a b zM K := fun K hK =>
    w_X10_areTwo ha hb r2 (fun _ => w_t rg1 (w_meets h1 st hpa hpb (fun v y hv hy g0 g => hK v y hv hy (inv_way h' hf g0 g)))) (fun r => absurd q r)
  obtain ⟨hB, _⟩ := hW
  rcases bst_ok (U := dU (prOf (zM 1)) (gOf (zM 1) a)) (D := dU (prOf (zM 1)) (gOf (zM 1) b)) 30 (Nat.le_refl _) with c | ⟨c1, c2, c3⟩
  · rcases hB with ⟨d1, d2⟩ | ⟨d1, _⟩
    · rw [d2]
      refine ⟨⟨by decide, by decide⟩, ?_⟩
      rw [if_neg (by decide)]
      refine ref _ (fun v y hv hy hi => ?_)
      rw [if_pos c] at hv
      subst hv
      exact w_f rg0 ⟨rfl, hi⟩
    · omega
  · rcases hB with ⟨d1, _⟩ | ⟨d1, d2, d3, d4⟩
    · omega
    · rw [d2, d3, d4]
      refine ⟨⟨by omega, by omega⟩, ?_⟩
      rw [if_pos (by omega)]
      refine ref _ (fun v y hv hy hi => ?_)
      rw [if_neg (by omega)] at hv
      subst hv
      obtain ⟨e1, e2, e3⟩ := hy
      rw [if_neg (by omega)] at e1
      rw [e1, Int.toNat_natCast, e2 _ c1, e3 _ c1]
      exact w_t rg1 ⟨⟨by omega, by omega⟩, ⟨by omega, by omega⟩, rfl, hi⟩
theorem inv_op24 : op24 Inv := by
  intro a1 a2 zC zM ha hb h
  have h1 := h.1
  have hn := h1.n
  have b0 := h.2.1.1
  obtain ⟨r0, r1, r2, r3⟩ := rgS h1
  unfold cal_X9_common
  refine w_X9_arePersons ha hb (by rw [b0]; exact r0) (fun q => w_t rg1 ?_) (fun q => w_f rg0 ?_)
  rotate_left
  · rw [b0] at q
    exact w_X10_areTwo ha hb r2 (fun r => absurd r q) (fun _ => w_f rg0 ⟨rfl, h⟩)
  rw [b0] at q
  refine w_settle h (fun z' h' _ st _ => ?_)
  obtain ⟨a, rfl⟩ : ∃ a : Nat, a1 = a := ⟨a1.toNat, by omega⟩
  obtain ⟨b, rfl⟩ : ∃ b : Nat, a2 = b := ⟨a2.toNat, by omega⟩
  have hpa : a < sN (zM 1) := by omega
  have hpb : b < sN (zM 1) := by omega
  refine w_seekWays h1 st hpa hpb (fun z'' hW hf => ?_)
  have ref : ∀ K : Int → Hp → Prop, (∀ (y : Hp), WayM y (dU (prOf (zM 1)) (gOf (zM 1) a)) (dU (prOf (zM 1)) (gOf (zM 1) b)) → Inv z'' y → K (y 0 27) y) → cal_X10_common a b zM K := fun K hK =>
    w_X10_areTwo ha hb r2 (fun _ => w_t rg1 (w_meets h1 st hpa hpb (fun v y hv hy g0 g => hK y hy (inv_way h' hf g0 g)))) (fun r => absurd q r)
  obtain ⟨hB, _⟩ := hW
  rcases hB with ⟨d1, d2⟩ | ⟨d1, d2, d3, d4⟩
  · rw [d2]
    refine ⟨⟨by decide, by decide⟩, ?_⟩
    rw [if_neg (by decide)]
    refine ref _ (fun y hy hi => ⟨?_, hi⟩)
    rw [hy.1, if_pos d1]
  · rw [d2]
    refine ⟨⟨by omega, by omega⟩, ?_⟩
    rw [if_pos (by omega)]
    refine ref _ (fun y hy hi => ⟨?_, hi⟩)
    rw [hy.1, if_neg (by omega)]
/-- the least below 30 of whom P holds, else d -/
def lwS (P : Nat → Bool) (d : Nat) : Nat → Nat
  | 0 => d
  | k + 1 => if P (29 - k) = true then 29 - k else lwS P d k
theorem lwS_spec {P : Nat → Bool} {d : Nat} : ∀ k, k ≤ 30 → (∃ q, 30 - k ≤ q ∧ q < 30 ∧ P q = true ∧ lwS P d k = q ∧ ∀ r, 30 - k ≤ r → r < q → P r = false) ∨ ((∀ q, 30 - k ≤ q → q < 30 → P q = false) ∧ lwS P d k = d)
  | 0, _ => Or.inr ⟨fun q h1 h2 => by omega, rfl⟩
  | k + 1, hk => by
    rw [lwS]
    by_cases c : P (29 - k) = true
    · rw [if_pos c]
      exact Or.inl ⟨29 - k, by omega, by omega, c, rfl, fun r h1 h2 => by omega⟩
    · rw [if_neg c]
      have c' : P (29 - k) = false := by cases h : P (29 - k) with
        | true => exact absurd h c
        | false => rfl
      rcases lwS_spec (P := P) (d := d) k (by omega) with ⟨q, h1, h2, h3, h4, h5⟩ | ⟨h1, h2⟩
      · refine Or.inl ⟨q, by omega, h2, h3, h4, fun r r1 r2 => ?_⟩
        by_cases e : r = 29 - k
        · subst e; exact c'
        · exact h5 r (by omega) r2
      · refine Or.inr ⟨fun q q1 q2 => ?_, h2⟩
        by_cases e : q = 29 - k
        · subst e; exact c'
        · exact h1 q (by omega) q2
def PU (pr U : Nat → Nat) (p q : Nat) : Bool := decide (U q + 1 = U p) && (pr q).testBit p
def lw (pr U : Nat → Nat) (p : Nat) : Nat := lwS (PU pr U p) p 30
theorem lw_spec (pr U : Nat → Nat) (p : Nat) : ∃ N, N ≤ 30 ∧ (∀ r, r < N → PU pr U p r = false) ∧ ((N < 30 ∧ PU pr U p N = true ∧ lw pr U p = N) ∨ (N = 30 ∧ lw pr U p = p)) := by
  rcases lwS_spec (P := PU pr U p) (d := p) 30 (Nat.le_refl _) with ⟨q, h1, h2, h3, h4, h5⟩ | ⟨h1, h2⟩
  · exact ⟨q, by omega, fun r hr => h5 r (by omega) hr, Or.inl ⟨h2, h3, h4⟩⟩
  · exact ⟨30, Nat.le_refl _, fun r hr => h1 r (by omega) hr, Or.inr ⟨rfl, h2⟩⟩
theorem PU_iff {pr U : Nat → Nat} {p q : Nat} : PU pr U p q = true ↔ U q + 1 = U p ∧ (pr q).testBit p = true := by
  unfold PU
  rw [Bool.and_eq_true, decide_eq_true_eq]
theorem cU_cs {U : Nat → Nat} (o : OkU U) (p : Nat) : (cU U p = -1 ∧ U p = 99) ∨ (cU U p = U p ∧ U p < 30) := by
  unfold cU
  rcases o p with h | h
  · rw [if_neg (by omega)]; exact Or.inr ⟨rfl, h⟩
  · rw [if_pos h]; exact Or.inl ⟨rfl, h⟩
theorem w_X7_stepDown {r p : Nat} {pr U : Nat → Nat} {z : Hp} {K : Int → Prop} (o : OkU U) (hp : p < 30) (h6 : Row z 94 pr) (hpr : ∀ p, pr p < 1073741824) (hr : ∀ p, p < 30 → z r p = cU U p) (k : K (lw pr U p : Nat)) : cal_X7_stepDown 88 r p z K := by
  obtain ⟨N, hN, hpre, hend⟩ := lw_spec pr U p
  have ip : inb (p : Int) 30 := ⟨by omega, by omega⟩
  have op := cU_cs o p
  have rp : ∀ q, q < 30 → rg (cU U q) := fun q _ => by rcases cU_cs o q with h | h <;> constructor <;> omega
  show LQ1 _ 0
  refine LQ1_for N (fun _ => True) 0 rfl (by omega) trivial (fun X j hj _ hX => ?_) (fun X _ => ?_)
  · have ij : inb (j : Int) 30 := ⟨by omega, by omega⟩
    have oj := cU_cs o j
    have nj : ¬ (U j + 1 = U p ∧ (pr j).testBit p = true) := fun q => by have := hpre j hj; rw [PU_iff.mpr q] at this; cases this
    refine w_if ⟨by omega, by omega⟩ (fun e => absurd e (by omega)) (fun _ => ⟨ij, ?_⟩)
    rw [Int.toNat_natCast, Int.toNat_natCast, hr j (by omega), hr p hp, show 88 + 6 = 94 from rfl, h6 j (by omega)]
    refine jn_i (fun (J : Prop) => J) (lt_i (hX trivial)) (fun J hJ => w_if (rp j (by omega)) (fun _ => hJ) (fun e => ⟨ij, ip, w_if2 (rp j (by omega)) ⟨by omega, by omega⟩ (fun e2 => ⟨ij, w_X1_has (hpr j) (by omega) (fun hb => absurd ⟨by omega, hb⟩ nj) (fun _ => w_f rg0 hJ)⟩) (fun _ => hJ)⟩))
  · rcases hend with ⟨n1, n2, n3⟩ | ⟨rfl, n3⟩
    · have iN : inb (N : Int) 30 := ⟨by omega, by omega⟩
      have oN := cU_cs o N
      obtain ⟨y1, y2⟩ := PU_iff.mp n2
      rw [n3] at k
      refine w_if ⟨by omega, by omega⟩ (fun e => absurd e (by omega)) (fun _ => ⟨iN, ?_⟩)
      rw [Int.toNat_natCast, Int.toNat_natCast, hr N n1, hr p hp, show 88 + 6 = 94 from rfl, h6 N n1]
      refine jn_i (fun (_ : Prop) => True) trivial (fun J _ => w_if (rp N n1) (fun e => absurd e (by omega)) (fun e => ⟨iN, ip, w_if2 (rp N n1) ⟨by omega, by omega⟩ (fun e2 => ⟨iN, w_X1_has (hpr N) (by omega) (fun hb => w_t rg1 k) (fun hb => by rw [y2] at hb; cases hb)⟩) (fun e2 => absurd (by omega) e2)⟩))
    · rw [n3] at k
      exact w_if ⟨by omega, by omega⟩ (fun _ => k) (fun e => absurd e (by omega))
theorem w_X10_under {r p : Nat} {mo fa pr U : Nat → Nat} {z : Hp} {K : Int → Prop} (o : OkU U) (hp : p < 30) (h7 : Row z 7 mo) (h8 : Row z 8 fa) (hm : ∀ p, mo p < 1073741824) (hf : ∀ p, fa p < 1073741824) (epr : ∀ p, mo p ||| fa p = pr p) (hr : ∀ p, p < 30 → z r p = (U p : Nat)) (hex : ∃ q, q < 30 ∧ PU pr U p q = true) (k : lw pr U p < 30 → K (lw pr U p : Nat)) : cal_X10_under p r z K := by
  obtain ⟨N, hN, hpre, hend⟩ := lw_spec pr U p
  have ip : inb (p : Int) 30 := ⟨by omega, by omega⟩
  have prb : ∀ p, pr p < 1073741824 := fun p => by rw [← epr p]; exact or_lt (hm p) (hf p)
  have eo : ∀ j, ior (mo j) (fa j) = (pr j : Nat) := fun j => by rw [ior_n (by have := hm j; omega) (by have := hf j; omega), epr]
  have op := o p
  show LQ1 _ 0
  rcases hend with ⟨n1, n2, n3⟩ | ⟨rfl, n3⟩
  · refine LQ1_for N (fun _ => True) 0 rfl (by omega) trivial (fun X j hj _ hX => ?_) (fun X _ => ?_)
    · have ij : inb (j : Int) 30 := ⟨by omega, by omega⟩
      have oj := o j
      have nj : ¬ (U j + 1 = U p ∧ (pr j).testBit p = true) := fun q => by have := hpre j hj; rw [PU_iff.mpr q] at this; cases this
      refine ⟨ij, ip, ?_⟩
      rw [Int.toNat_natCast, Int.toNat_natCast, hr j (by omega), hr p hp, h7 j (by omega), h8 j (by omega), eo j]
      exact jn_i (fun (J : Prop) => J) (lt_i (hX trivial)) (fun J hJ => w_if2 ⟨by omega, by omega⟩ ⟨by omega, by omega⟩ (fun e => ⟨ij, ij, w_X10_has (prb j) (by omega) (fun hb => absurd ⟨by omega, hb⟩ nj) (fun _ => w_f rg0 hJ)⟩) (fun _ => hJ))
    · have iN : inb (N : Int) 30 := ⟨by omega, by omega⟩
      have oN := o N
      obtain ⟨y1, y2⟩ := PU_iff.mp n2
      have k := k (by omega)
      rw [n3] at k
      refine ⟨iN, ip, ?_⟩
      rw [Int.toNat_natCast, Int.toNat_natCast, hr N n1, hr p hp, h7 N n1, h8 N n1, eo N]
      exact jn_i (fun (_ : Prop) => True) trivial (fun J _ => w_if2 ⟨by omega, by omega⟩ ⟨by omega, by omega⟩ (fun e => ⟨iN, iN, w_X10_has (prb N) (by omega) (fun hb => w_t rg1 k) (fun hb => by rw [y2] at hb; cases hb)⟩) (fun e => absurd (by omega) e))
  · obtain ⟨q, q1, q2⟩ := hex
    have := hpre q q1
    rw [q2] at this
    cases this
def dnF (pr U : Nat → Nat) (c : Nat) : Nat → Nat
  | 0 => c
  | j + 1 => lw pr U (dnF pr U c j)
/-- one that is reached in k + 1 steps has one below it on the way -/
theorem dU_ex {pr : Nat → Nat} {n a p : Nat} (hn : n ≤ 30) (hp : PaOk n pr) (ha : a < n) (h1 : dU pr a p ≠ 99) (h0 : dU pr a p ≠ 0) : ∃ q, q < 30 ∧ PU pr (dU pr a) p q = true := by
  rcases dU_cs pr a p with ⟨c1, c2⟩ | ⟨c1, _⟩
  · obtain ⟨k, hk⟩ : ∃ k, dU pr a p = k + 1 := ⟨dU pr a p - 1, by omega⟩
    rw [hk] at c2
    obtain ⟨⟨q, q1, q2⟩, _⟩ := Fr_succ.mp c2
    have := Fr_lt hp ha k q q1
    exact ⟨q, by omega, PU_iff.mpr ⟨by rw [dU_of (by omega) q1, hk], q2⟩⟩
  · exact absurd c1 h1
theorem lw_ok {pr U : Nat → Nat} {p : Nat} (h : ∃ q, q < 30 ∧ PU pr U p q = true) : lw pr U p < 30 ∧ U (lw pr U p) + 1 = U p := by
  obtain ⟨N, hN, hpre, hend⟩ := lw_spec pr U p
  rcases hend with ⟨n1, n2, n3⟩ | ⟨rfl, n3⟩
  · rw [n3]; exact ⟨n1, (PU_iff.mp n2).1⟩
  · obtain ⟨q, q1, q2⟩ := h
    have := hpre q q1
    rw [q2] at this
    cases this
theorem dn_ok {pr : Nat → Nat} {n a c : Nat} (hn : n ≤ 30) (hp : PaOk n pr) (ha : a < n) (hc : c < 30) (h1 : dU pr a c ≠ 99) : ∀ j, j ≤ dU pr a c → dnF pr (dU pr a) c j < 30 ∧ dU pr a (dnF pr (dU pr a) c j) + j = dU pr a c
  | 0, _ => ⟨hc, rfl⟩
  | j + 1, hj => by
    obtain ⟨i1, i2⟩ := dn_ok hn hp ha hc h1 j (by omega)
    have o := okU pr a c
    have := lw_ok (dU_ex hn hp ha (p := dnF pr (dU pr a) c j) (by omega) (by omega))
    rw [dnF]
    exact ⟨this.1, by omega⟩
theorem w_X7_descend {r f n a c : Nat} {pr : Nat → Nat} {z : Hp} {K : Int → Prop} (hn : n ≤ 30) (hp : PaOk n pr) (ha : a < n) (hc : c < 30) (h1 : dU pr a c ≠ 99) (hf : f ≤ dU pr a c) (h2 : z 133 2 = c) (h6 : Row z 94 pr) (hr : ∀ p, p < 30 → z r p = cU (dU pr a) p) (k : K (dnF pr (dU pr a) c f : Nat)) : cal_X7_descend 133 88 r f z K := by
  have o := okU pr a c
  show lt1 (z 133 2) _
  rw [h2]
  refine lt_i (lt_i (LQ2_for f (fun j v => v = (dnF pr (dU pr a) c j : Nat)) 0 rfl (by omega) rfl (fun X j v hj hv hX => ?_) (fun X v hv => ?_)))
  · obtain ⟨i1, i2⟩ := dn_ok hn hp ha hc h1 j (by omega)
    subst hv
    exact w_if2 ⟨by omega, by omega⟩ ⟨by omega, by omega⟩ (fun e => absurd e (by omega)) (fun _ => w_if ⟨by omega, by omega⟩ (fun e => absurd e (by omega)) (fun _ => w_X7_stepDown (okU pr a) i1 h6 (fun p => p30 hn (hp p).1) hr (lt_i (lt_i (hX _ rfl)))))
  · subst hv
    exact w_if2 ⟨by omega, by omega⟩ ⟨by omega, by omega⟩ (fun _ => k) (fun e => absurd e (by omega))
/-- alike least ones -/
def LE (s s' : Nat) : Prop := ∃ v, IsFst 30 (fun i => s.testBit i = true) v ∧ IsFst 30 (fun i => s'.testBit i = true) v
theorem LE_iff {s s' : Nat} {v w : Int} (h : IsFst 30 (fun i => s.testBit i = true) v) (h' : IsFst 30 (fun i => s'.testBit i = true) w) : v = w ↔ LE s s' := ⟨fun e => ⟨v, h, by rw [e]; exact h'⟩, fun ⟨x, h1, h2⟩ => by rw [h.eq h1, h'.eq h2]⟩
def HA (mo fa : Nat → Nat) (x y : Nat) : Prop := mo x ≠ 0 ∧ LE (mo x) (mo y) ∧ fa x ≠ 0 ∧ LE (fa x) (fa y)
theorem w_X1_haveAlikeParents {x y : Nat} {mo fa : Nat → Nat} {z : Hp} {K : Int → Prop} (hx : x < 30) (hy : y < 30) (h4 : Row z 92 mo) (h5 : Row z 93 fa) (hm : ∀ p, mo p < 1073741824) (hf : ∀ p, fa p < 1073741824) (k1 : HA mo fa x y → K 1) (k0 : ¬ HA mo fa x y → K 0) : cal_X1_haveAlikeParents 88 x y z K := by
  have ix : inb (x : Int) 30 := ⟨by omega, by omega⟩
  have iy : inb (y : Int) 30 := ⟨by omega, by omega⟩
  have m1 := hm x
  have f1 := hf x
  unfold cal_X1_haveAlikeParents
  rw [Int.toNat_natCast, Int.toNat_natCast, show 88 + 4 = 92 from rfl, show 88 + 5 = 93 from rfl, h4 x hx, h4 y hy, h5 x hx, h5 y hy]
  refine ⟨ix, w_if ⟨by omega, by omega⟩ (fun e => k0 (fun q => q.1 (by omega))) (fun e => ⟨ix, w_X1_least (hm x) (fun v hv => ⟨iy, w_X1_least (hm y) (fun w hw => ?_)⟩)⟩)⟩
  have rv := hv.rg (by omega)
  have rw' := hw.rg (by omega)
  refine w_if2 ⟨by omega, by omega⟩ ⟨by omega, by omega⟩ (fun e2 => ⟨ix, w_if ⟨by omega, by omega⟩ (fun e3 => k0 (fun q => q.2.2.1 (by omega))) (fun e3 => ⟨ix, w_X1_least (hf x) (fun v' hv' => ⟨iy, w_X1_least (hf y) (fun w' hw' => ?_)⟩)⟩)⟩) (fun e2 => k0 (fun q => e2 ((LE_iff hv hw).mpr q.2.1)))
  have rv2 := hv'.rg (by omega)
  have rw2 := hw'.rg (by omega)
  exact w_if2 ⟨by omega, by omega⟩ ⟨by omega, by omega⟩ (fun e4 => k1 ⟨by omega, (LE_iff hv hw).mp e2, by omega, (LE_iff hv' hw').mp e4⟩) (fun e4 => k0 (fun q => e4 ((LE_iff hv' hw').mpr q.2.2.2)))
/-- half: both go up and down, and those below haven't alike parents -/
def HalfP (S : Nat → Int) (a b c : Nat) : Prop := dU (prOf S) a c ≠ 0 ∧ dU (prOf S) b c ≠ 0 ∧ ¬ HA (moOf S) (faOf S) (dnF (prOf S) (dU (prOf S) a) c 1) (dnF (prOf S) (dU (prOf S) b) c 1)
theorem w_X7_isHalf {S : Nat → Int} {a b c : Nat} {z : Hp} {K : Int → Prop} (h1 : SOk 60 S) (ha : a < sN S) (hb : b < sN S) (hc : c < 30) (hu : dU (prOf S) a c ≠ 99) (hd : dU (prOf S) b c ≠ 99) (s2 : z 133 2 = c) (s3 : z 133 3 = (dU (prOf S) a c : Nat)) (s4 : z 133 4 = (dU (prOf S) b c : Nat)) (h4 : Row z 92 (moOf S)) (h5 : Row z 93 (faOf S)) (h6 : Row z 94 (prOf S)) (hA : ∀ p, p < 30 → z 134 p = cU (dU (prOf S) a) p) (hB : ∀ p, p < 30 → z 135 p = cU (dU (prOf S) b) p) (k1 : HalfP S a b c → K 1) (k0 : ¬ HalfP S a b c → K 0) : cal_X7_isHalf 133 88 z K := by
  have hn := h1.n.2
  have o1 := okU (prOf S) a c
  have o2 := okU (prOf S) b c
  unfold cal_X7_isHalf
  rw [s3, s4]
  refine w_if ⟨by omega, by omega⟩ (fun e => k0 (fun q => q.1 (by omega))) (fun e => w_if ⟨by omega, by omega⟩ (fun e' => k0 (fun q => q.2.1 (by omega))) (fun e' => ?_))
  have d1 := dn_ok hn (prOf_ok h1) ha hc hu 1 (by omega)
  have d2 := dn_ok hn (prOf_ok h1) hb hc hd 1 (by omega)
  refine w_X7_descend (f := 1) (r := 134) hn (prOf_ok h1) ha hc hu (by omega) s2 h6 hA (w_X7_descend (f := 1) (r := 135) hn (prOf_ok h1) hb hc hd (by omega) s2 h6 hB ?_)
  exact w_X1_haveAlikeParents d1.1 d2.1 h4 h5 (fun p => (prB h1 p).1) (fun p => (prB h1 p).2.1) (fun q => w_t rg1 (k0 (fun r => r.2.2 q))) (fun q => w_f rg0 (k1 ⟨by omega, by omega, q⟩))
theorem w_X10_isHalf {S : Nat → Int} {a b c : Nat} {z : Hp} {K : Int → Prop} (h1 : SOk 60 S) (ha : a < sN S) (hb : b < sN S) (hc : c < 30) (hu : dU (prOf S) a c ≠ 99) (hd : dU (prOf S) b c ≠ 99) (s2 : z 0 27 = c) (h7 : Row z 7 (moOf S)) (h8 : Row z 8 (faOf S)) (hA : ∀ p, p < 30 → z 13 p = (dU (prOf S) a p : Nat)) (hB : ∀ p, p < 30 → z 14 p = (dU (prOf S) b p : Nat)) (k1 : HalfP S a b c → K 1) (k0 : ¬ HalfP S a b c → K 0) : cal_X10_isHalf z K := by
  have hn := h1.n.2
  have o1 := okU (prOf S) a c
  have o2 := okU (prOf S) b c
  have ic : inb (c : Int) 30 := ⟨by omega, by omega⟩
  have pB := fun p => prB h1 p
  unfold cal_X10_isHalf
  rw [s2, Int.toNat_natCast, hA c hc, hB c hc]
  refine ⟨ic, w_if ⟨by omega, by omega⟩ (fun e => k0 (fun q => q.1 (by omega))) (fun e => ⟨ic, w_if ⟨by omega, by omega⟩ (fun e' => k0 (fun q => q.2.1 (by omega))) (fun e' => ?_)⟩)⟩
  refine w_X10_under (pr := prOf S) (okU (prOf S) a) hc h7 h8 (fun p => (pB p).1) (fun p => (pB p).2.1) (fun _ => rfl) hA (dU_ex hn (prOf_ok h1) ha hu (by omega)) (fun x30 => lt_i (w_X10_under (pr := prOf S) (okU (prOf S) b) hc h7 h8 (fun p => (pB p).1) (fun p => (pB p).2.1) (fun _ => rfl) hB (dU_ex hn (prOf_ok h1) hb hd (by omega)) (fun y30 => lt_i ?_)))
  have k1' : ¬ HA (moOf S) (faOf S) (lw (prOf S) (dU (prOf S) a) c) (lw (prOf S) (dU (prOf S) b) c) → K 1 := fun q => k1 ⟨by omega, by omega, q⟩
  have k0' : HA (moOf S) (faOf S) (lw (prOf S) (dU (prOf S) a) c) (lw (prOf S) (dU (prOf S) b) c) → K 0 := fun q => k0 (fun r => r.2.2 q)
  generalize lw (prOf S) (dU (prOf S) a) c = x at *
  generalize lw (prOf S) (dU (prOf S) b) c = y at *
  have ix : inb (x : Int) 30 := ⟨by omega, by omega⟩
  have iy : inb (y : Int) 30 := ⟨by omega, by omega⟩
  have m1 := (pB x).1
  have f1 := (pB x).2.1
  rw [Int.toNat_natCast, Int.toNat_natCast, h7 x x30, h8 x x30, h7 y y30, h8 y y30]
  refine ⟨ix, jn_i (fun J => ∀ v : Int, ((v = 1 ∧ HA (moOf S) (faOf S) x y) ∨ (v = 0 ∧ ¬ HA (moOf S) (faOf S) x y)) → J v) (fun v hv => ?_) (fun J hJ => ?_)⟩
  · rcases hv with ⟨rfl, q⟩ | ⟨rfl, q⟩
    · exact w_t rg1 (k0' q)
    · exact w_f rg0 (k1' q)
  · refine jn_i (fun (J7 : Prop) => ¬ HA (moOf S) (faOf S) x y → J7) (fun q => lt_i (hJ 0 (Or.inr ⟨rfl, q⟩))) (fun J7 h77 => ?_)
    refine w_if ⟨by omega, by omega⟩ (fun e1 => h77 (fun q => q.1 (by omega))) (fun e1 => ⟨ix, w_if ⟨by omega, by omega⟩ (fun e2 => h77 (fun q => q.2.2.1 (by omega))) (fun e2 => ⟨ix, w_X10_least (pB x).1 (fun v hv => ⟨iy, w_X10_least (pB y).1 (fun w hw => ?_)⟩)⟩)⟩)
    have rv := hv.rg (by omega)
    have rw' := hw.rg (by omega)
    refine w_if2 ⟨by omega, by omega⟩ ⟨by omega, by omega⟩ (fun e3 => ⟨ix, w_X10_least (pB x).2.1 (fun v' hv' => ⟨iy, w_X10_least (pB y).2.1 (fun w' hw' => ?_)⟩)⟩) (fun e3 => h77 (fun q => e3 ((LE_iff hv hw).mpr q.2.1)))
    have rv2 := hv'.rg (by omega)
    have rw2 := hw'.rg (by omega)
    exact w_if2 ⟨by omega, by omega⟩ ⟨by omega, by omega⟩ (fun e4 => lt_i (hJ 1 (Or.inl ⟨rfl, by omega, (LE_iff hv hw).mp e3, by omega, (LE_iff hv' hw').mp e4⟩))) (fun e4 => h77 (fun q => e4 ((LE_iff hv' hw').mpr q.2.2.2)))
theorem inv_op25 : op25 Inv := by
  intro a1 a2 zC zM ha hb h
  have h1 := h.1
  have hn := h1.n
  have b0 := h.2.1.1
  obtain ⟨r0, r1, r2, r3⟩ := rgS h1
  unfold cal_X9_half
  refine w_X9_arePersons ha hb (by rw [b0]; exact r0) (fun q => w_t rg1 ?_) (fun q => w_f rg0 ?_)
  rotate_left
  · rw [b0] at q
    exact w_X10_areTwo ha hb r2 (fun r => absurd r q) (fun _ => w_f rg0 ⟨rfl, h⟩)
  rw [b0] at q
  refine w_settle h (fun z' h' _ st _ => ?_)
  obtain ⟨a, rfl⟩ : ∃ a : Nat, a1 = a := ⟨a1.toNat, by omega⟩
  obtain ⟨b, rfl⟩ : ∃ b : Nat, a2 = b := ⟨a2.toNat, by omega⟩
  have hpa : a < sN (zM 1) := by omega
  have hpb : b < sN (zM 1) := by omega
  have hgg := gOf_good h1
  have st' := st
  obtain ⟨ab, sx, hab, hF, ⟨r6, r7, r8, r9⟩, _⟩ := st'
  obtain ⟨_, hcnt, hall, R1, R2, ⟨R3, R4, R5, R6, R8, R9⟩, R7, ring⟩ := hF
  refine w_seekWays h1 st hpa hpb (fun z'' hW hf => ?_)
  have ref : ∀ K : Int → Hp → Prop, (∀ (v : Int) (y : Hp), v = (if bst (dU (prOf (zM 1)) (gOf (zM 1) a)) (dU (prOf (zM 1)) (gOf (zM 1) b)) 30 = 30 then 0 else 1) → WayM y (dU (prOf (zM 1)) (gOf (zM 1) a)) (dU (prOf (zM 1)) (gOf (zM 1) b)) → Inv z'' y → Row y 7 (moOf (zM 1)) → Row y 8 (faOf (zM 1)) → (rg v ∧ if v = 0 then (K (-5) y) else (cal_X10_isHalf y (fun v4 => rg v4 ∧ if v4 = 0 then (K 0 y) else (K 1 y))))) → cal_X10_half a b zM K := fun K hK =>
    w_X10_areTwo ha hb r2 (fun _ => w_t rg1 (w_meets h1 st hpa hpb (fun v y hv hy g0 g => hK v y hv hy (inv_way h' hf g0 g) (r7.to (g 7 (by decide) (by decide) (by decide))) (r8.to (g 8 (by decide) (by decide) (by decide)))))) (fun r => absurd q r)
  obtain ⟨hB, hA1, hA2⟩ := hW
  rcases hB with ⟨d1, d2⟩ | ⟨d1, d2, d3, d4⟩
  · rw [d2]
    refine ⟨⟨by decide, by decide⟩, ?_⟩
    rw [if_neg (by decide)]
    refine ref _ (fun v y hv hy hi _ _ => ?_)
    rw [if_pos d1] at hv
    subst hv
    exact w_f rg0 ⟨rfl, hi⟩
  · rcases bst_ok (U := dU (prOf (zM 1)) (gOf (zM 1) a)) (D := dU (prOf (zM 1)) (gOf (zM 1) b)) 30 (Nat.le_refl _) with c | ⟨c1, c2, c3⟩
    · omega
    rw [d2]
    refine ⟨⟨by omega, by omega⟩, ?_⟩
    rw [if_pos (by omega)]
    have fin : ∀ v' : Int, ((v' = 1 ∧ HalfP (zM 1) (gOf (zM 1) a) (gOf (zM 1) b) (bst (dU (prOf (zM 1)) (gOf (zM 1) a)) (dU (prOf (zM 1)) (gOf (zM 1) b)) 30)) ∨ (v' = 0 ∧ ¬ HalfP (zM 1) (gOf (zM 1) a) (gOf (zM 1) b) (bst (dU (prOf (zM 1)) (gOf (zM 1) a)) (dU (prOf (zM 1)) (gOf (zM 1) b)) 30))) → cal_X10_half a b zM (fun r' zM' => v' = r' ∧ Inv z'' zM') := fun v' hv' => ref _ (fun v y hv hy hi y7 y8 => by
      rw [if_neg (by omega)] at hv
      subst hv
      obtain ⟨e1, e2, e3⟩ := hy
      rw [if_neg (by omega)] at e1
      exact w_t rg1 (w_X10_isHalf h1 (hgg.lt hpa) (hgg.lt hpb) c1 c2 c3 e1 y7 y8 e2 e3 (fun p => w_t rg1 ⟨hv'.elim (fun q => q.1) (fun q => absurd p q.2), hi⟩) (fun p => w_f rg0 ⟨hv'.elim (fun q => absurd q.2 p) (fun q => q.1), hi⟩)))
    exact w_X7_isHalf h1 (hgg.lt hpa) (hgg.lt hpb) c1 c2 c3 d2 d3 d4 (Row.to R4 (hf 92 (by decide) (by decide) (by decide))) (Row.to R5 (hf 93 (by decide) (by decide) (by decide))) (Row.to R6 (hf 94 (by decide) (by decide) (by decide))) hA1 hA2 (fun p => w_t rg1 (fin 1 (Or.inl ⟨rfl, p⟩))) (fun p => w_f rg0 (fin 0 (Or.inr ⟨rfl, p⟩)))
