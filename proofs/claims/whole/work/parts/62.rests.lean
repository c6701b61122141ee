/-! what an end rests on, link by link -/
def chn (st : RSt) (e : Nat) : Nat → Int
  | 0 => e
  | k + 1 => if chn st e k < 0 then chn st e k else rF st (chn st e k).toNat
theorem chn_bd {st : RSt} {e : Nat} (h : ROk st) (he : e < 240) : ∀ k, chn st e k = -5 ∨ (0 ≤ chn st e k ∧ chn st e k < 240)
  | 0 => Or.inr ⟨by show (0 : Int) ≤ (e : Int); omega, by show (e : Int) < 240; omega⟩
  | k + 1 => by
    have ih := chn_bd h he k
    rw [chn]
    by_cases c : chn st e k < 0
    · rw [if_pos c]; exact ih
    · rw [if_neg c]
      have := h (chn st e k).toNat (by omega)
      omega
theorem chn_stay {st : RSt} {e k : Nat} (h : chn st e k < 0) : ∀ d, chn st e (k + d) = chn st e k
  | 0 => rfl
  | d + 1 => by
    have ih := chn_stay h d
    rw [show k + (d + 1) = (k + d) + 1 by omega, chn, ih, if_pos h]
def act (st : RSt) (c : Int) : Prop := 0 ≤ c ∧ 0 ≤ rR st c.toNat
def fol (st : RSt) (c : Int) : Int := if 0 ≤ c ∧ 0 ≤ rR st c.toNat then c else -1
def ClsE (z : Hp) (t : Nat) (st : RSt) : Prop := ∀ e, e < 240 → z (t + 2) e = en (rR st e) ∧ z (t + 3) e = en (rF st e)
theorem en_r {st : RSt} {e : Nat} (h : ROk st) (he : e < 240) : (rR st e = -5 ∧ en (rR st e) = -1 ∧ rF st e = -5 ∧ en (rF st e) = -1) ∨ (0 ≤ rR st e ∧ rR st e < 160 ∧ en (rR st e) = rR st e ∧ ((rF st e = -5 ∧ en (rF st e) = -1) ∨ (0 ≤ rF st e ∧ rF st e < 240 ∧ en (rF st e) = rF st e))) := by
  have e5 : en (-5) = -1 := by decide
  have e0 : ∀ x : Int, 0 ≤ x → en x = x := fun x hx => by unfold en; rw [if_neg (by omega)]
  rcases h e he with ⟨a, b⟩ | ⟨a, b, c⟩
  · refine Or.inl ⟨a, ?_, b, ?_⟩
    · rw [a]; exact e5
    · rw [b]; exact e5
  · refine Or.inr ⟨a, b, e0 _ a, ?_⟩
    rcases c with c | c
    · exact Or.inl ⟨c, by rw [c]; exact e5⟩
    · exact Or.inr ⟨c.1, c.2, e0 _ c.1⟩
theorem w_X3_follow {t k e : Nat} {st : RSt} {z : Hp} {K : Int → Prop} (hE : ClsE z t st) (hok : ROk st) (he : e < 240) (hk : k < 1000) (kk : K (fol st (chn st e k))) : cal_X3_follow t e k z K := by
  have hc := chn_bd hok he
  have fin : ∀ v : Int, v = en (chn st e k) → rg v ∧ (if v < 0 then (K (-1)) else (inb v 242 ∧ rg (z (t + 2) v.toNat) ∧ if (z (t + 2) v.toNat) < 0 then (K (-1)) else (K v))) := fun v hv => by
    unfold fol at kk
    rcases hc k with c | ⟨c0, c1⟩
    · rw [c] at hv kk
      have : v = -1 := hv
      subst this
      rw [if_neg (fun q => absurd q.1 (by decide))] at kk
      exact ⟨⟨by decide, by decide⟩, by rw [if_pos (by decide)]; exact kk⟩
    · have ev : v = chn st e k := by rw [hv]; unfold en; rw [if_neg (by omega)]
      subst ev
      refine ⟨⟨by omega, by omega⟩, ?_⟩
      rw [if_neg (by omega)]
      have er := en_r hok (show (chn st e k).toNat < 240 by omega)
      rw [(hE _ (show (chn st e k).toNat < 240 by omega)).1]
      rcases er with ⟨a, b, _⟩ | ⟨a, a', b, _⟩
      · rw [b]
        refine ⟨⟨by omega, by omega⟩, ⟨by decide, by decide⟩, ?_⟩
        rw [if_neg (fun q => by rw [a] at q; exact absurd q.2 (by decide))] at kk
        rw [if_pos (by decide)]; exact kk
      · rw [b]
        refine ⟨⟨by omega, by omega⟩, ⟨by omega, by omega⟩, ?_⟩
        rw [if_pos ⟨c0, a⟩] at kk
        rw [if_neg (by omega)]; exact kk
  show LQ2 _ (e : Int) 0
  refine LQ2_for k (fun j v => v = en (chn st e j)) 0 rfl (by omega) (by show (e : Int) = en (e : Int); unfold en; rw [if_neg (by omega)]) (fun X j v hj hv hX => ?_) (fun X v hv => ?_)
  · refine jn_i (fun J => J (en (chn st e k))) (fin _ rfl) (fun J hJ => ⟨⟨by omega, by omega⟩, ⟨by omega, by omega⟩, ?_⟩)
    rw [if_neg (by omega)]
    rcases hc j with c | ⟨c0, c1⟩
    · have hs := chn_stay (show chn st e j < 0 by omega) (k - j)
      rw [show j + (k - j) = k by omega] at hs
      rw [hs, ← hv] at hJ
      have : v = -1 := by rw [hv, c]; rfl
      exact ⟨by rw [this]; constructor <;> decide, by rw [if_pos (by omega)]; exact hJ⟩
    · have ev : v = chn st e j := by rw [hv]; unfold en; rw [if_neg (by omega)]
      refine ⟨⟨by omega, by omega⟩, ?_⟩
      rw [if_neg (by omega), ev, (hE _ (show (chn st e j).toNat < 240 by omega)).2]
      refine ⟨⟨by omega, by omega⟩, lt_i (lt_i (hX _ ?_))⟩
      rw [chn, if_neg (by omega)]
  · exact jn_i (fun J => J (en (chn st e k))) (fin _ rfl) (fun J hJ => ⟨⟨by omega, by omega⟩, ⟨by omega, by omega⟩, by rw [if_pos (by omega), hv]; exact hJ⟩)
/-- what is told of a link -/
def rst (st : RSt) (e k : Nat) (part : Int) : Int := if fol st (chn st e k) < 0 then -3 else if part = 0 then rR st (fol st (chn st e k)).toNat else if rF st (fol st (chn st e k)).toNat < 0 then -5 else if part = 1 then (if rF st (fol st (chn st e k)).toNat / 2 < 60 then rF st (fol st (chn st e k)).toNat / 2 else 140 + rF st (fol st (chn st e k)).toNat / 2) else rF st (fol st (chn st e k)).toNat % 2
theorem fol_bd {st : RSt} {e k : Nat} (hok : ROk st) (he : e < 240) : fol st (chn st e k) = -1 ∨ (0 ≤ fol st (chn st e k) ∧ fol st (chn st e k) < 240 ∧ fol st (chn st e k) = chn st e k ∧ 0 ≤ rR st (chn st e k).toNat) := by
  unfold fol
  by_cases c : 0 ≤ chn st e k ∧ 0 ≤ rR st (chn st e k).toNat
  · rw [if_pos c]
    have := chn_bd hok he k
    exact Or.inr ⟨c.1, by omega, rfl, c.2⟩
  · rw [if_neg c]; exact Or.inl rfl
theorem w_X3_tellRest {t k e : Nat} {part : Int} {st : RSt} {z : Hp} {K : Int → Prop} (hE : ClsE z t st) (hok : ROk st) (he : e < 240) (hk : k < 1000) (hp : rg part) (kk : K (rst st e k part)) : cal_X3_tellRest t e k part z K := by
  refine w_X3_follow hE hok he hk (lt_i ?_)
  unfold rst at kk
  have fb := fol_bd (k := k) hok he
  generalize fol st (chn st e k) = c at *
  rcases fb with rfl | ⟨c0, c1, ec, er0⟩
  · rw [if_pos (by decide)] at kk
    exact ⟨⟨by decide, by decide⟩, by rw [if_neg (by decide)]; exact kk⟩
  · rw [if_neg (by omega)] at kk
    have ib : inb c 242 := ⟨by omega, by omega⟩
    refine ⟨⟨by omega, by omega⟩, ?_⟩
    rw [if_pos c0, (hE c.toNat (by omega)).1, (hE c.toNat (by omega)).2]
    rcases en_r hok (show c.toNat < 240 by omega) with ⟨a, _⟩ | ⟨a, a', b, d⟩
    · rw [ec] at a; omega
    · rw [b]
      refine ⟨hp, w_ite (fun e0 => ⟨ib, by rw [if_pos e0] at kk; exact kk⟩) (fun e0 => ?_)⟩
      rw [if_neg e0] at kk
      rcases d with ⟨f, g⟩ | ⟨f, f', g⟩
      · rw [g]
        rw [if_pos (by omega)] at kk
        exact ⟨ib, ⟨by decide, by decide⟩, by rw [if_neg (by decide)]; exact kk⟩
      · rw [g]
        rw [if_neg (by omega)] at kk
        refine ⟨ib, ⟨by omega, by omega⟩, ?_⟩
        rw [if_pos f]
        refine ⟨hp, w_ite (fun e1 => ?_) (fun e1 => ?_)⟩
        · rw [if_pos e1] at kk
          exact ⟨ib, ⟨by omega, by omega⟩, w_X3_tellRange ⟨by omega, by omega⟩ kk⟩
        · rw [if_neg e1] at kk
          exact ⟨ib, ⟨by omega, by omega⟩, kk⟩
theorem w_X10_rests {k e : Nat} {part : Int} {st : RSt} {z : Hp} {K : Int → Prop} (hE : ∀ e, e < 240 → z 11 e = rR st e ∧ z 12 e = rF st e) (hok : ROk st) (he : e < 240) (hk : k < 1000) (hp : rg part) (kk : K (rst st e k part)) : cal_X10_rests e k part z K := by
  have hc := chn_bd hok he
  have ib : ∀ c : Int, 0 ≤ c → c < 240 → inb c 240 := fun c a b => ⟨a, b⟩
  have fin : rg (chn st e k) ∧ (if chn st e k < 0 then (K (-3)) else (inb (chn st e k) 240 ∧ rg (z 11 (chn st e k).toNat) ∧ if 0 ≤ (z 11 (chn st e k).toNat) then (rg part ∧ if part = 0 then (inb (chn st e k) 240 ∧ K (z 11 (chn st e k).toNat)) else (inb (chn st e k) 240 ∧ rg (z 12 (chn st e k).toNat) ∧ if 0 ≤ (z 12 (chn st e k).toNat) then (rg part ∧ if part = 1 then (inb (chn st e k) 240 ∧ nn (z 12 (chn st e k).toNat) ∧ cal_X10_toldRange ((z 12 (chn st e k).toNat) / 2) z (fun v8 => K v8)) else (inb (chn st e k) 240 ∧ nn (z 12 (chn st e k).toNat) ∧ K ((z 12 (chn st e k).toNat) % 2))) else (K (-5)))) else (K (-3)))) := by
    unfold rst at kk
    have ef : fol st (chn st e k) = if 0 ≤ chn st e k ∧ 0 ≤ rR st (chn st e k).toNat then chn st e k else -1 := rfl
    rcases hc k with c | ⟨c0, c1⟩
    · rw [c] at ef ⊢
      rw [if_neg (fun q => absurd q.1 (by decide))] at ef
      rw [c, ef, if_pos (by decide)] at kk
      exact ⟨⟨by decide, by decide⟩, by rw [if_pos (by decide)]; exact kk⟩
    · generalize chn st e k = c at *
      refine ⟨⟨by omega, by omega⟩, ?_⟩
      rw [if_neg (by omega), (hE c.toNat (by omega)).1, (hE c.toNat (by omega)).2]
      rcases en_r hok (show c.toNat < 240 by omega) with ⟨a, _⟩ | ⟨a, a', _, d⟩
      · rw [if_neg (fun q => by rw [a] at q; exact absurd q.2 (by decide))] at ef
        rw [ef, if_pos (by decide)] at kk
        exact ⟨ib _ c0 c1, by rw [a]; constructor <;> decide, by rw [a, if_neg (by decide)]; exact kk⟩
      · rw [if_pos ⟨c0, a⟩] at ef
        rw [ef, if_neg (by omega)] at kk
        refine ⟨ib _ c0 c1, ⟨by omega, by omega⟩, ?_⟩
        rw [if_pos a]
        refine ⟨hp, w_ite (fun e0 => ⟨ib _ c0 c1, by rw [if_pos e0] at kk; exact kk⟩) (fun e0 => ?_)⟩
        rw [if_neg e0] at kk
        rcases d with ⟨f, _⟩ | ⟨f, f', _⟩
        · rw [f] at kk ⊢
          rw [if_pos (by decide)] at kk
          exact ⟨ib _ c0 c1, ⟨by decide, by decide⟩, by rw [if_neg (by decide)]; exact kk⟩
        · rw [if_neg (by omega)] at kk
          refine ⟨ib _ c0 c1, ⟨by omega, by omega⟩, ?_⟩
          rw [if_pos f]
          refine ⟨hp, w_ite (fun e1 => ?_) (fun e1 => ?_)⟩
          · rw [if_pos e1] at kk
            exact ⟨ib _ c0 c1, ⟨by omega, by omega⟩, w_X10_toldRange ⟨by omega, by omega⟩ kk⟩
          · rw [if_neg e1] at kk
            exact ⟨ib _ c0 c1, ⟨by omega, by omega⟩, kk⟩
  show LQ2 _ (e : Int) 0
  refine LQ2_for k (fun j v => v = chn st e j) 0 rfl (by omega) rfl (fun X j v hj hv hX => ?_) (fun X v hv => ?_)
  · refine jn_i (fun J => J (chn st e k)) fin (fun J hJ => ⟨⟨by omega, by omega⟩, ⟨by omega, by omega⟩, ?_⟩)
    rw [if_neg (by omega)]
    rcases hc j with c | ⟨c0, c1⟩
    · have hs := chn_stay (show chn st e j < 0 by omega) (k - j)
      rw [show j + (k - j) = k by omega] at hs
      rw [hs, ← hv] at hJ
      exact ⟨⟨by omega, by omega⟩, by rw [if_pos (by omega)]; exact hJ⟩
    · refine ⟨⟨by omega, by omega⟩, ?_⟩
      rw [if_neg (by omega), hv, (hE _ (show (chn st e j).toNat < 240 by omega)).1, (hE _ (show (chn st e j).toNat < 240 by omega)).2]
      have nx : chn st e (j + 1) = rF st (chn st e j).toNat := by rw [chn, if_neg (by omega)]
      refine ⟨ib _ c0 c1, jn_i (fun J => J (chn st e (j + 1))) (lt_i (hX _ rfl)) (fun J2 hJ2 => ?_)⟩
      rw [nx] at hJ2
      rcases en_r hok (show (chn st e j).toNat < 240 by omega) with ⟨a, _, f, _⟩ | ⟨a, a', _, d⟩
      · rw [f] at hJ2
        exact ⟨by rw [a]; constructor <;> decide, by rw [a, if_neg (by decide)]; exact lt_i hJ2⟩
      · exact ⟨⟨by omega, by omega⟩, by rw [if_pos a]; exact ⟨ib _ c0 c1, lt_i hJ2⟩⟩
  · exact jn_i (fun J => J (chn st e k)) fin (fun J hJ => ⟨⟨by omega, by omega⟩, ⟨by omega, by omega⟩, by rw [if_pos (by omega), hv]; exact hJ⟩)
