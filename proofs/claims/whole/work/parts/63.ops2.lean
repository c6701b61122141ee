/-! calls that tell what has been worked out: ends, clashes -/
theorem isEnd_nat {a b c : Int} {n : Nat} (q : (0 ≤ a ∧ a < (n : Int)) ∧ (0 ≤ b ∧ b ≤ 1) ∧ (0 ≤ c ∧ c ≤ 1)) : ∃ p w s : Nat, a = p ∧ b = w ∧ c = s ∧ p < n ∧ w ≤ 1 ∧ s ≤ 1 := ⟨a.toNat, b.toNat, c.toNat, by omega, by omega, by omega, by omega, by omega, by omega⟩
theorem w_personEnd {r p w s : Nat} {g : Nat → Nat} {z : Hp} {K : Int → Prop} (hr : Row z (r + 2 + 1) g) (hp : p < 30) (k : K ((2 * (2 * g p + w) + s : Nat) : Int)) : cal_X9_personEnd r p w s z K := ⟨⟨by omega, by omega⟩, by
  rw [Int.toNat_natCast, hr p hp, show (2 * (2 * (g p : Int) + (w : Int)) + (s : Int)) = ((2 * (2 * g p + w) + s : Nat) : Int) by omega]; exact k⟩
theorem w_endOf {p w s : Nat} {g : Nat → Nat} {z : Hp} {K : Int → Prop} (hr : Row z 6 g) (hp : p < 30) (k : K ((2 * (2 * g p + w) + s : Nat) : Int)) : cal_X10_endOf p w s z K := ⟨⟨by omega, by omega⟩, by
  rw [Int.toNat_natCast, hr p hp]
  refine w_born ?_
  rw [show (2 * (2 * (g p : Int) + (w : Int)) + (s : Int)) = ((2 * (2 * g p + w) + s : Nat) : Int) by omega]; exact k⟩
theorem SOk.g30 {S : Nat → Int} (h : SOk 60 S) {p : Nat} (hp : p < sN S) : gOf S p < 30 := by
  have := (gOf_good h).1 p
  have := h.n
  omega
theorem inv_op13 : op13 Inv := by
  intro a1 a2 a3 zC zM ha hb hc h
  have h1 := h.1
  have hn := h1.n
  have b0 := h.2.1.1
  obtain ⟨r0, r1, r2, r3⟩ := rgS h1
  unfold cal_X9_end
  refine w_X9_isEnd ha hb hc (by rw [b0]; exact r0) (fun q => w_t rg1 ?_) (fun q => w_f rg0 ?_)
  · rw [b0, hn.1] at q
    refine w_settle h (fun z' h' _ st _ => ?_)
    obtain ⟨p, w, s, rfl, rfl, rfl, hp, hw, hs⟩ := isEnd_nat q
    obtain ⟨ab, sx, hab, hF, ⟨r6, _⟩, hE, hCl, hrd⟩ := st
    have gp := h1.g30 hp
    refine w_personEnd (r := 86) (g := gOf (zM 1)) hF.2.2.2.1 (by omega) ⟨⟨by omega, by omega⟩, ?_⟩
    refine w_X10_isEnd ha hb hc r2 (fun _ => w_t rg1 (w_endOf r6 (by omega) ⟨⟨by omega, by omega⟩, ?_, h'⟩)) (fun r => absurd (by rw [hn.1]; exact q) r)
    rw [Int.toNat_natCast]
    have := hE.1 (2 * (2 * gOf (zM 1) p + w) + s) (by omega)
    rw [this.1, this.2.2.2.1]
  · rw [b0] at q
    exact w_X10_isEnd ha hb hc r2 (fun r => absurd r q) (fun _ => w_f rg0 ⟨rfl, h⟩)
theorem inv_op14 : op14 Inv := by
  intro a1 a2 zC zM ha hb h
  have h1 := h.1
  have ht := h1.t
  obtain ⟨b0, b1, b2, b3, _⟩ := h.2.1
  obtain ⟨r0, r1, r2, r3⟩ := rgS h1
  unfold cal_X9_year
  refine w_X0_isStatement (t := 1) ha (by rw [b1]; exact r1) (fun q => w_t rg1 ?_) (fun q => w_f rg0 ?_)
  rotate_left
  · rw [b1] at q
    exact w_X10_isStatement ha r3 (fun r => absurd r q) (fun _ => w_f rg0 ⟨rfl, h⟩)
  rw [b1] at q
  refine w_X9_isFlag hb (fun q2 => w_t rg1 ?_) (fun q2 => w_f rg0 ?_)
  rotate_left
  · exact w_X10_isStatement ha r3 (fun _ => w_t rg1 (w_X10_isIn hb rg0 rg1 (fun r => absurd r q2) (fun _ => w_f rg0 ⟨rfl, h⟩))) (fun r => absurd q r)
  obtain ⟨t, rfl⟩ : ∃ t : Nat, a1 = t := ⟨a1.toNat, by omega⟩
  obtain ⟨s, rfl⟩ : ∃ s : Nat, a2 = s := ⟨a2.toNat, by omega⟩
  have htt : t < sT (zM 1) := by omega
  obtain ⟨s0, _⟩ := b2 t htt
  have s5 := b3 t htt
  have ho := h1.2.2.2 t htt
  have ib : inb (t : Int) 61 := ⟨by omega, by omega⟩
  have v01 := ho.2.2.2.2.2
  have dead : ¬ (fV (zM 1) t = 1 ∧ fS (zM 1) t = 4) → cal_X10_year t s zM (fun r' => (-3 : Int) = r' ∧ Inv zC zM) := fun e => w_X10_isStatement ha r3 (fun _ => w_t rg1 (w_X10_isIn hb rg0 rg1 (fun _ => w_t rg1 (w_X10_isLive (s := 4) (by omega) ⟨by decide, by decide⟩ ho.rgs.2 ho.rgs.1 (fun r => absurd r e) (fun _ => w_f rg0 ⟨rfl, h⟩))) (fun r => absurd q2 r))) (fun r => absurd q r)
  rw [Int.toNat_natCast, s0, s5]
  refine ⟨ib, ho.rgs.1, w_ite (fun e => ⟨ib, ho.rgs.2, w_ite (fun e' => dead (fun r => by omega)) (fun e' => ?_)⟩) (fun e => dead (fun r => e r.2))⟩
  refine w_settle h (fun z' h' _ st _ => ?_)
  obtain ⟨ab, sx, hab, hF, ⟨r6, _⟩, hE, hCl, hrd⟩ := st
  rw [show (2 * (60 + (t : Int)) + (s : Int)) = ((2 * (60 + t) + s : Nat) : Int) by omega, Int.toNat_natCast]
  refine ⟨⟨by omega, by omega⟩, ?_⟩
  refine w_X10_isStatement ha r3 (fun _ => w_t rg1 (w_X10_isIn hb rg0 rg1 (fun _ => w_t rg1 (w_X10_isLive (s := 4) (by omega) ⟨by decide, by decide⟩ ho.rgs.2 ho.rgs.1 (fun _ => w_t rg1 (w_year ?_)) (fun r => absurd ⟨by show fV (zM 1) t = 1; omega, e⟩ r))) (fun r => absurd q2 r))) (fun r => absurd q r)
  rw [show (2 * (60 + (t : Int)) + (s : Int)) = ((2 * (60 + t) + s : Nat) : Int) by omega, Int.toNat_natCast]
  have := hE.1 (2 * (60 + t) + s) (by omega)
  exact ⟨⟨by omega, by omega⟩, by rw [this.1, this.2.2.2.1], h'⟩
theorem inv_op15 : op15 Inv := by
  intro a1 a2 a3 a4 a5 zC zM ha hb hc hd he h
  have h1 := h.1
  have hn := h1.n
  have b0 := h.2.1.1
  obtain ⟨r0, r1, r2, r3⟩ := rgS h1
  unfold cal_X9_proof
  refine w_X9_isEnd ha hb hc (by rw [b0]; exact r0) (fun q => w_t rg1 ?_) (fun q => w_f rg0 ?_)
  rotate_left
  · rw [b0] at q
    exact w_X10_isEnd ha hb hc r2 (fun r => absurd r q) (fun _ => w_f rg0 ⟨rfl, h⟩)
  rw [b0] at q
  refine w_X9_isLinkPart hd he (fun q2 => w_t rg1 ?_) (fun q2 => w_f rg0 ?_)
  rotate_left
  · exact w_X10_isEnd ha hb hc r2 (fun _ => w_t rg1 (w_X10_isLink hd he (fun r => absurd r q2) (fun _ => w_f rg0 ⟨rfl, h⟩))) (fun r => absurd q r)
  refine w_settle h (fun z' h' _ st _ => ?_)
  have q' := q
  rw [hn.1] at q'
  obtain ⟨p, w, s, rfl, rfl, rfl, hp, hw, hs⟩ := isEnd_nat q'
  obtain ⟨k, rfl⟩ : ∃ k : Nat, a4 = k := ⟨a4.toNat, by omega⟩
  obtain ⟨ab, sx, hab, hF, ⟨r6, _⟩, hE, hCl, hrd⟩ := st
  have gp := h1.g30 hp
  refine w_personEnd (r := 86) (g := gOf (zM 1)) hF.2.2.2.1 (by omega) ?_
  refine w_X3_tellRest (t := 99) (st := sx) (fun e he => ⟨(hE.1 e he).2.2.2.2.1, (hE.1 e he).2.2.2.2.2⟩) hE.2.2 (by omega) (by omega) he ?_
  refine w_X10_isEnd ha hb hc r2 (fun _ => w_t rg1 (w_X10_isLink hd he (fun _ => w_t rg1 (w_endOf r6 (by omega) ?_)) (fun r => absurd q2 r))) (fun r => absurd q r)
  exact w_X10_rests (st := sx) (fun e he => ⟨(hE.1 e he).2.1, (hE.1 e he).2.2.1⟩) hE.2.2 (by omega) (by omega) he ⟨rfl, h'⟩
theorem inv_op17 : op17 Inv := by
  intro a1 zC zM ha h
  unfold cal_X9_clash
  refine w_X9_isFlag ha (fun q => w_t rg1 ?_) (fun q => w_f rg0 (w_X10_isIn ha rg0 rg1 (fun r => absurd r q) (fun _ => w_f rg0 ⟨rfl, h⟩)))
  refine w_settle h (fun z' h' _ st _ => ?_)
  obtain ⟨ab, sx, hab, hF, _, hE, ⟨c1, c2, c3, c4⟩, hrd⟩ := st
  have r17 : rg (zM 0 17) := ⟨by omega, by omega⟩
  refine w_if ha (fun e => ?_) (fun e => ?_)
  · exact w_X10_isIn ha rg0 rg1 (fun _ => w_t rg1 (w_if ha (fun _ => ⟨c1, h'⟩) (fun r => absurd e r))) (fun r => absurd q r)
  · unfold cal_X8_tellClashing
    rw [c1]
    refine w_if r17 (fun e4 => ?_) (fun e4 => ?_)
    · obtain ⟨d1, d2, d3⟩ := c3 e4
      rw [d1]
      refine w_X3_tellRange ⟨by omega, by omega⟩ ?_
      exact w_X10_isIn ha rg0 rg1 (fun _ => w_t rg1 (w_if ha (fun r => absurd r e) (fun _ => w_if r17 (fun _ => w_X10_toldRange ⟨by omega, by omega⟩ ⟨rfl, h'⟩) (fun r => absurd e4 r)))) (fun r => absurd q r)
    · obtain ⟨d1, _⟩ := c4 e4
      exact w_X10_isIn ha rg0 rg1 (fun _ => w_t rg1 (w_if ha (fun r => absurd r e) (fun _ => w_if r17 (fun r => absurd r e4) (fun _ => ⟨d1, h'⟩)))) (fun r => absurd q r)
theorem inv_op18 : op18 Inv := by
  intro a1 a2 a3 zC zM ha hb hc h
  unfold cal_X9_why
  refine w_X9_isFlag ha (fun q => w_t rg1 ?_) (fun q => w_f rg0 (w_X10_isIn ha rg0 rg1 (fun r => absurd r q) (fun _ => w_f rg0 ⟨rfl, h⟩)))
  refine w_X9_isLinkPart hb hc (fun q2 => w_t rg1 ?_) (fun q2 => w_f rg0 (w_X10_isIn ha rg0 rg1 (fun _ => w_t rg1 (w_X10_isLink hb hc (fun r => absurd r q2) (fun _ => w_f rg0 ⟨rfl, h⟩))) (fun r => absurd q r)))
  refine w_settle h (fun z' h' _ st _ => ?_)
  obtain ⟨ab, sx, hab, hF, _, hE, ⟨c1, c2, c3, c4⟩, hrd⟩ := st
  have r17 : rg (zM 0 17) := ⟨by omega, by omega⟩
  by_cases e4 : zM 0 17 = 4
  rotate_left
  · rw [(c4 e4).2.2.2]
    refine ⟨⟨by decide, by decide⟩, ?_⟩
    rw [if_neg (by decide)]
    exact w_X10_isIn ha rg0 rg1 (fun _ => w_t rg1 (w_X10_isLink hb hc (fun _ => w_t rg1 (w_if r17 (fun r => absurd r e4) (fun _ => ⟨rfl, h'⟩))) (fun r => absurd q2 r))) (fun r => absurd q r)
  obtain ⟨d1, d2, d3⟩ := c3 e4
  rw [d1]
  obtain ⟨x, hx⟩ : ∃ x : Nat, zM 0 18 = x := ⟨(zM 0 18).toNat, by omega⟩
  obtain ⟨s, rfl⟩ : ∃ s : Nat, a1 = s := ⟨a1.toNat, by omega⟩
  obtain ⟨k, rfl⟩ : ∃ k : Nat, a2 = k := ⟨a2.toNat, by omega⟩
  rw [hx] at d2 d3 ⊢
  refine ⟨⟨by omega, by omega⟩, ?_⟩
  rw [if_pos (by omega), show (2 * (x : Int) + (s : Int)) = ((2 * x + s : Nat) : Int) by omega]
  refine w_X3_tellRest (t := 99) (st := sx) (fun e he => ⟨(hE.1 e he).2.2.2.2.1, (hE.1 e he).2.2.2.2.2⟩) hE.2.2 (by omega) (by omega) hc ?_
  refine w_X10_isIn ha rg0 rg1 (fun _ => w_t rg1 (w_X10_isLink hb hc (fun _ => w_t rg1 (w_if r17 (fun _ => ?_) (fun r => absurd e4 r))) (fun r => absurd q2 r))) (fun r => absurd q r)
  rw [hx, show (2 * (x : Int) + (s : Int)) = ((2 * x + s : Nat) : Int) by omega]
  exact w_X10_rests (st := sx) (fun e he => ⟨(hE.1 e he).2.1, (hE.1 e he).2.2.1⟩) hE.2.2 (by omega) (by omega) hc ⟨rfl, h'⟩
theorem inv_op22 : op22 Inv := by
  intro zC zM h
  refine w_settle h (fun z' h' _ st _ => ?_)
  obtain ⟨ab, sx, hab, hF, _, hE, _, hrd⟩ := st
  exact ⟨hrd, h'⟩
theorem inv_op32 : op32 Inv := by
  intro a1 a2 zC zM ha hb h
  have h1 := h.1
  have hn := h1.n
  have b0 := h.2.1.1
  obtain ⟨r0, r1, r2, r3⟩ := rgS h1
  unfold cal_X9_ahead
  refine w_X9_arePersons ha hb (by rw [b0]; exact r0) (fun q => w_t rg1 ?_) (fun q => w_f rg0 ?_)
  rotate_left
  · rw [b0] at q
    exact w_X10_areTwo ha hb r2 (fun r => absurd r q) (fun _ => w_f rg0 ⟨rfl, h⟩)
  rw [b0] at q
  refine w_settle h (fun z' h' _ st _ => ?_)
  obtain ⟨a, rfl⟩ : ∃ a : Nat, a1 = a := ⟨a1.toNat, by omega⟩
  obtain ⟨b, rfl⟩ : ∃ b : Nat, a2 = b := ⟨a2.toNat, by omega⟩
  obtain ⟨ab, sx, hab, hF, ⟨r6, _⟩, hE, hCl, hrd⟩ := st
  have ga := h1.g30 (show a < sN (zM 1) by omega)
  have gb := h1.g30 (show b < sN (zM 1) by omega)
  have R := hF.2.2.2.1
  have R : Row z' 89 (gOf (zM 1)) := R
  have hrE : ∀ e, e < 240 → rg (rE sx e) := fun e he => by have := hE.2.1.1 e; constructor <;> omega
  rw [Int.toNat_natCast, Int.toNat_natCast, R a (by omega), R b (by omega)]
  have cE : ∀ e, e < 240 → z' 100 e = rE sx e := fun e he => (hE.1 e he).2.2.2.1
  have mE : ∀ e, e < 240 → zM 10 e = rE sx e := fun e he => (hE.1 e he).1
  have ib : ∀ e : Nat, e < 240 → inb (e : Int) 242 := fun e he => ⟨by omega, by omega⟩
  have ib0 : ∀ e : Nat, e < 240 → inb (e : Int) 240 := fun e he => ⟨by omega, by omega⟩
  have start : ∀ K : Int → Prop, (rg ((2 * (2 * gOf (zM 1) a + 0) + 0 : Nat) : Int) ∧ rg ((2 * (2 * gOf (zM 1) b + 0) + 0 : Nat) : Int) ∧ if ((2 * (2 * gOf (zM 1) a + 0) + 0 : Nat) : Int) = ((2 * (2 * gOf (zM 1) b + 0) + 0 : Nat) : Int) then K 0 else (inb (((2 * (2 * gOf (zM 1) a + 0) + 0 : Nat) : Int) + 1) 240 ∧ inb ((2 * (2 * gOf (zM 1) b + 0) + 0 : Nat) : Int) 240 ∧ rg (zM 10 (((2 * (2 * gOf (zM 1) a + 0) + 0 : Nat) : Int) + 1).toNat) ∧ rg (zM 10 (((2 * (2 * gOf (zM 1) b + 0) + 0 : Nat) : Int)).toNat) ∧ if (zM 10 (((2 * (2 * gOf (zM 1) b + 0) + 0 : Nat) : Int)).toNat) ≤ (zM 10 (((2 * (2 * gOf (zM 1) a + 0) + 0 : Nat) : Int) + 1).toNat) then (inb ((2 * (2 * gOf (zM 1) a + 0) + 0 : Nat) : Int) 240 ∧ inb (((2 * (2 * gOf (zM 1) b + 0) + 0 : Nat) : Int) + 1) 240 ∧ rg (zM 10 (((2 * (2 * gOf (zM 1) a + 0) + 0 : Nat) : Int)).toNat) ∧ rg (zM 10 (((2 * (2 * gOf (zM 1) b + 0) + 0 : Nat) : Int) + 1).toNat) ∧ if (zM 10 (((2 * (2 * gOf (zM 1) a + 0) + 0 : Nat) : Int)).toNat) ≤ (zM 10 (((2 * (2 * gOf (zM 1) b + 0) + 0 : Nat) : Int) + 1).toNat) then K 0 else K 2) else K 1)) → cal_X10_ahead a b zM K := fun K hK =>
    w_X10_areTwo ha hb r2 (fun _ => w_t rg1 (w_endOf (w := 0) (s := 0) r6 (by omega) (lt_i (w_endOf (w := 0) (s := 0) r6 (by omega) (lt_i hK))))) (fun r => absurd q r)
  have ga' : ((2 * (2 * gOf (zM 1) a + 0) + 0 : Nat) : Int) = ((4 * gOf (zM 1) a : Nat) : Int) := by omega
  have gb' : ((2 * (2 * gOf (zM 1) b + 0) + 0 : Nat) : Int) = ((4 * gOf (zM 1) b : Nat) : Int) := by omega
  have ga1 : (((4 * gOf (zM 1) a : Nat) : Int) + 1) = ((4 * gOf (zM 1) a + 1 : Nat) : Int) := by omega
  have gb1 : (((4 * gOf (zM 1) b : Nat) : Int) + 1) = ((4 * gOf (zM 1) b + 1 : Nat) : Int) := by omega
  rw [ga', gb', ga1, gb1, Int.toNat_natCast, Int.toNat_natCast, Int.toNat_natCast, Int.toNat_natCast, mE _ (by omega), mE _ (by omega), mE _ (by omega), mE _ (by omega)] at start
  refine ⟨⟨by omega, by omega⟩, ⟨by omega, by omega⟩, ⟨by omega, by omega⟩, ⟨by omega, by omega⟩, w_ite (fun e => ?_) (fun e => ?_)⟩
  · exact start _ ⟨⟨by omega, by omega⟩, ⟨by omega, by omega⟩, by rw [if_pos (by omega)]; exact ⟨rfl, h'⟩⟩
  · refine w_personEnd (r := 86) (w := 0) (s := 1) (g := gOf (zM 1)) hF.2.2.2.1 (by omega) ⟨⟨by omega, by omega⟩, w_personEnd (r := 86) (w := 0) (s := 0) (g := gOf (zM 1)) hF.2.2.2.1 (by omega) ⟨⟨by omega, by omega⟩, ?_⟩⟩
    rw [show ((2 * (2 * gOf (zM 1) a + 0) + 1 : Nat) : Int) = ((4 * gOf (zM 1) a + 1 : Nat) : Int) by omega, gb', Int.toNat_natCast, Int.toNat_natCast, cE _ (by omega), cE _ (by omega)]
    have e' : ¬ ((4 * gOf (zM 1) a : Nat) : Int) = ((4 * gOf (zM 1) b : Nat) : Int) := by omega
    refine ⟨hrE _ (by omega), hrE _ (by omega), w_ite (fun c => ?_) (fun c => ?_)⟩
    · refine w_personEnd (r := 86) (w := 0) (s := 0) (g := gOf (zM 1)) hF.2.2.2.1 (by omega) ⟨⟨by omega, by omega⟩, w_personEnd (r := 86) (w := 0) (s := 1) (g := gOf (zM 1)) hF.2.2.2.1 (by omega) ⟨⟨by omega, by omega⟩, ?_⟩⟩
      rw [show ((2 * (2 * gOf (zM 1) b + 0) + 1 : Nat) : Int) = ((4 * gOf (zM 1) b + 1 : Nat) : Int) by omega, ga', Int.toNat_natCast, Int.toNat_natCast, cE _ (by omega), cE _ (by omega)]
      refine ⟨hrE _ (by omega), hrE _ (by omega), w_ite (fun d => start _ ?_) (fun d => start _ ?_)⟩
      · exact ⟨⟨by omega, by omega⟩, ⟨by omega, by omega⟩, by rw [if_neg e']; exact ⟨ib0 _ (by omega), ib0 _ (by omega), hrE _ (by omega), hrE _ (by omega), by rw [if_pos c]; exact ⟨ib0 _ (by omega), ib0 _ (by omega), hrE _ (by omega), hrE _ (by omega), by rw [if_pos d]; exact ⟨rfl, h'⟩⟩⟩⟩
      · exact ⟨⟨by omega, by omega⟩, ⟨by omega, by omega⟩, by rw [if_neg e']; exact ⟨ib0 _ (by omega), ib0 _ (by omega), hrE _ (by omega), hrE _ (by omega), by rw [if_pos c]; exact ⟨ib0 _ (by omega), ib0 _ (by omega), hrE _ (by omega), hrE _ (by omega), by rw [if_neg d]; exact ⟨rfl, h'⟩⟩⟩⟩
    · exact start _ ⟨⟨by omega, by omega⟩, ⟨by omega, by omega⟩, by rw [if_neg e']; exact ⟨ib0 _ (by omega), ib0 _ (by omega), hrE _ (by omega), hrE _ (by omega), by rw [if_neg c]; exact ⟨rfl, h'⟩⟩⟩
