/-- the rules of a statement -/
def rls (S : Nat → Int) (g : Nat → Nat) (t : Nat) : List Rl :=
  let a := g (fA S t)
  let b := if fB S t < 0 then a else g (fB S t).toNat
  let n : Int := t
  if fS S t = 0 then [(2 * a, -1, fL S t, fH S t, n)]
  else if fS S t = 1 then [(2 * a + 1, -1, fL S t, fH S t, n)]
  else if fS S t = 2 then [(2 * a, ((2 * b : Nat) : Int), 12, 55, n), (2 * b + 1, ((2 * a : Nat) : Int), 0, 100000, n)]
  else if fS S t = 3 then [(2 * a, ((2 * b : Nat) : Int), 14, 80, n), (2 * b + 1, ((2 * a : Nat) : Int), -1, 100000, n)]
  else if fS S t = 4 then [(60 + t, -1, fL S t, fH S t, n), (60 + t, ((2 * a : Nat) : Int), 14, 110, n), (2 * a + 1, ((60 + t : Nat) : Int), 0, 100000, n), (60 + t, ((2 * b : Nat) : Int), 14, 110, n), (2 * b + 1, ((60 + t : Nat) : Int), 0, 100000, n)]
  else if fS S t = 6 then [(2 * a, -1, -100000, fL S t, n), (2 * a + 1, -1, fL S t, 100000, n)]
  else if fS S t = 7 then [(2 * b, ((2 * a : Nat) : Int), fL S t, 100000, n)]
  else []
theorem rls_ok {n : Nat} {S : Nat → Int} {g : Nat → Nat} {t : Nat} (hn : n ≤ 30) (ho : StOk n S t) (hg : gGood n g) (h4 : fS S t = 4 → t < 60) : ∀ r ∈ rls S g t, RlOk r := by
  have ha := hg.lt ho.a
  have hb : (if fB S t < 0 then g (fA S t) else g (fB S t).toNat) < n := by
    by_cases c : fB S t < 0
    · rw [if_pos c]; exact ha
    · rw [if_neg c]
      refine hg.lt ?_
      rcases ho.2.2.1 with q | q <;> omega
  obtain ⟨o0, o1, o2, o3, o4, o5⟩ := ho
  unfold rls
  simp only
  generalize (if fB S t < 0 then g (fA S t) else g (fB S t).toNat) = b at *
  generalize g (fA S t) = a at *
  unfold isYrs at o3 o4
  intro r hr
  split at hr
  · simp only [List.mem_singleton] at hr; subst hr; refine ⟨?_, ?_, ?_, ?_⟩ <;> dsimp only <;> omega
  split at hr
  · simp only [List.mem_singleton] at hr; subst hr; refine ⟨?_, ?_, ?_, ?_⟩ <;> dsimp only <;> omega
  split at hr
  · simp only [List.mem_cons, List.not_mem_nil, or_false] at hr; rcases hr with rfl | rfl <;> refine ⟨?_, ?_, ?_, ?_⟩ <;> dsimp only <;> omega
  split at hr
  · simp only [List.mem_cons, List.not_mem_nil, or_false] at hr; rcases hr with rfl | rfl <;> refine ⟨?_, ?_, ?_, ?_⟩ <;> dsimp only <;> omega
  split at hr
  · next h => have := h4 h; simp only [List.mem_cons, List.not_mem_nil, or_false] at hr; rcases hr with rfl | rfl | rfl | rfl | rfl <;> refine ⟨?_, ?_, ?_, ?_⟩ <;> dsimp only <;> omega
  split at hr
  · simp only [List.mem_cons, List.not_mem_nil, or_false] at hr; rcases hr with rfl | rfl <;> refine ⟨?_, ?_, ?_, ?_⟩ <;> dsimp only <;> omega
  split at hr
  · simp only [List.mem_singleton] at hr; subst hr; refine ⟨?_, ?_, ?_, ?_⟩ <;> dsimp only <;> omega
  · simp at hr
theorem foldl_RB : ∀ (l : List Rl) (s : RSt), RB s → (∀ r ∈ l, RlOk r) → RB (l.foldl apl s) := fun l s h hl => foldl_inv l s h (fun s r hr h => apl_RB h (hl r hr))
theorem w_born {a : Int} {z : Hp} {K : Int → Prop} (k : K (2 * a)) : cal_X10_bornOf a z K := k
theorem w_year {a : Int} {z : Hp} {K : Int → Prop} (k : K (60 + a)) : cal_X10_yearOf a z K := k
theorem w_isWithin' {z : Hp} {K : Hp → Prop} {X : Int} (x : Nat) {c d ru : Int} {s : RSt} (hX : X = x) (hx : x < 120) (hc : -10000 ≤ c ∧ c ≤ 10000) (hd : -10000 ≤ d ∧ d ≤ 10000) (hs : RefR z s) (hb : RB s) (hru : z 0 20 = ru) (k : ∀ z' : Hp, RefR z' (apl s (x, -1, c, d, ru)) → RFr z z' → K z') : cal_X10_isWithin X c d z K := by
  subst hX; exact w_X10_isWithin hx hc hd hs hb hru k
theorem w_differ' {z : Hp} {K : Hp → Prop} {X Y : Int} (x y : Nat) {c d ru : Int} {s : RSt} (hX : X = x) (hY : Y = y) (hx : x < 120) (hy : y < 120) (hc : -5 ≤ c ∧ c ≤ 3000) (hd : 0 ≤ d ∧ d ≤ 3001) (hs : RefR z s) (hb : RB s) (hru : z 0 20 = ru) (k : ∀ z' : Hp, RefR z' (apl s (x, y, c, (if d = 3001 then 100000 else d), ru)) → RFr z z' → K z') : cal_X10_differ X Y c d z K := by
  subst hX hY; exact w_X10_differ hx hy hc hd hs hb hru k
theorem w_narrows' {z : Hp} {K : Hp → Prop} {X : Int} (e : Nat) {v b ru : Int} {s : RSt} (hX : X = e) (he : e < 240) (hv : rg v) (hs : RefR z s) (hb : RB s) (hru : z 0 20 = ru) (k : ∀ z' : Hp, RefR z' (nar ru e v b s) → RFr z z' → K z') : cal_X10_narrows X v b z K := by
  subst hX; exact w_X10_narrows he hv hs hb hru k
theorem RFr.ru {z z' : Hp} {ru : Int} (h : RFr z z') (e : z 0 20 = ru) : z' 0 20 = ru := by rw [h.1 20 (by decide) (by decide) (by decide)]; exact e
def RFr2 (z z' : Hp) : Prop := (∀ j, j ≠ 17 → j ≠ 18 → j ≠ 20 → j ≠ 21 → z' 0 j = z 0 j) ∧ ∀ c, c ≠ 0 → c ≠ 10 → c ≠ 11 → c ≠ 12 → z' c = z c
theorem RFr2.rf {z : Hp} : RFr2 z z := ⟨fun _ _ _ _ _ => rfl, fun _ _ _ _ _ => rfl⟩
theorem RFr2.tr {z z' z'' : Hp} (h : RFr2 z z') (h' : RFr2 z' z'') : RFr2 z z'' := ⟨fun j a b c d => by rw [h'.1 j a b c d, h.1 j a b c d], fun c h1 h2 h3 h4 => by rw [h'.2 c h1 h2 h3 h4, h.2 c h1 h2 h3 h4]⟩
theorem RFr.two {z z' : Hp} (h : RFr z z') : RFr2 z z' := ⟨fun j a b _ d => h.1 j a b d, h.2⟩
theorem RefR.at20 {z : Hp} {s : RSt} {v : Int} (h : RefR z s) : RefR (kup z 0 20 v) s := ⟨fun e he => by rw [kup_c (by decide), kup_c (by decide), kup_c (by decide)]; exact h.1 e he, by rw [kup_n (by decide)]; exact h.2.1, by rw [kup_n (by decide)]; exact h.2.2.1, by rw [kup_n (by decide)]; exact h.2.2.2⟩
set_option maxHeartbeats 1000000 in
theorem w_X10_applies {z : Hp} {K : Hp → Prop} {n t : Nat} {S : Nat → Int} {g : Nat → Nat} {s : RSt} (hn : n ≤ 30) (ht : t < 61) (hS : z 1 = S) (hg6 : Row z 6 g) (ho : StOk n S t) (hg : gGood n g) (h4 : fS S t = 4 → t < 60) (hs : RefR z s) (hb : RB s) (k : ∀ z' : Hp, RefR z' ((rls S g t).foldl apl s) → RB ((rls S g t).foldl apl s) → RFr2 z z' → K z') : cal_X10_applies t z K := by
  have hok := rls_ok hn ho hg h4
  have kk : ∀ z' : Hp, RefR z' ((rls S g t).foldl apl s) → RFr2 z z' → K z' := fun z' q1 q2 => k z' q1 (foldl_RB _ _ hb hok) q2
  have ha := hg.lt ho.a
  have hfa := ho.a
  have e1 := ho.at1
  have hbn : ¬ fB S t < 0 → (fB S t).toNat < n := fun c => by rcases ho.2.2.1 with q | q <;> omega
  have hgb : ¬ fB S t < 0 → g (fB S t).toNat < n := fun c => hg.lt (hbn c)
  have rB : rg (fB S t) := by rcases ho.2.2.1 with q | q <;> constructor <;> omega
  have rS : rg (fS S t) := ho.rgs.1
  unfold cal_X10_applies
  refine w_X10_told (w := 1) (by omega) ?_
  rw [hS, e1]
  refine ⟨⟨by omega, by omega⟩, lt_i (w_X10_told (w := 2) (by omega) ?_)⟩
  rw [Int.toNat_natCast, hg6 _ (by omega), hS]
  refine jn_i (fun J => J ((if fB S t < 0 then g (fA S t) else g (fB S t).toNat : Nat) : Int)) ?_ (fun J hJ => ?_)
  rotate_left
  · refine ⟨rB, w_ite (fun c => ?_) (fun c => ?_)⟩
    · have c : 0 ≤ fB S t := c
      have q1 := hbn (by omega)
      refine w_X10_told (w := 2) (by omega) ?_
      rw [hS]
      refine ⟨⟨by show 0 ≤ fB S t; omega, by show fB S t < _; omega⟩, lt_i ?_⟩
      show J (z 6 (fB S t).toNat)
      rw [hg6 _ (by omega)]
      rw [if_neg (by omega)] at hJ
      exact hJ
    · have c : ¬ 0 ≤ fB S t := c
      rw [if_pos (by omega)] at hJ
      exact lt_i hJ
  refine w_X10_told (w := 3) (by omega) (lt_i (hp_i ?_))
  rw [hS]
  have hb2 : (if fB S t < 0 then g (fA S t) else g (fB S t).toNat) < n := by
    by_cases c : fB S t < 0
    · rw [if_pos c]; exact ha
    · rw [if_neg c]; exact hgb c
  have hs8 : RefR (kup z 0 20 t) s := hs.at20
  have ru8 : kup z 0 20 (t : Int) 0 20 = (t : Int) := kup_eq
  have S8 : kup z 0 20 (t : Int) 1 = S := by rw [← hS]; funext q; exact kup_c (by decide)
  have f8 : RFr2 z (kup z 0 20 (t : Int)) := ⟨fun j _ _ c _ => kup_n (fun q => c q.2), fun c c0 _ _ _ => by funext q; exact kup_c c0⟩
  generalize eq : rls S g t = L at *
  unfold rls at eq
  simp only at eq
  generalize kup z 0 20 (t : Int) = z8 at *
  generalize (if fB S t < 0 then g (fA S t) else g (fB S t).toNat) = b at *
  generalize g (fA S t) = a at *
  obtain ⟨o0, o1, o2, o3, o4, o5⟩ := ho
  unfold isYrs at o3 o4
  have eL : S (242 + 6 * t + 3) = fL S t := rfl
  have eH : S (242 + 6 * t + 4) = fH S t := rfl
  rw [eL]
  refine w_X10_told (w := 0) (by omega) ?_
  rw [S8]
  refine ⟨rS, ?_⟩
  show if fS S t = 0 then _ else _
  have fin : ∀ z' : Hp, ∀ l : List Rl, L = l → RefR z' (l.foldl apl s) → RFr z8 z' → K z' := fun z' l e q1 q2 => kk z' (by rw [e]; exact q1) (f8.tr q2.two)
  refine w_ite (fun q => w_born (w_X10_told (w := 4) (by omega) ?_)) (fun q0 => ?_)
  · rw [if_pos q] at eq
    rw [S8, eH]
    exact w_isWithin' (ru := t) (2 * a) (by omega) (by omega) ⟨by omega, by omega⟩ ⟨by omega, by omega⟩ hs8 hb ru8 (fun z' q1 q2 => fin z' _ eq.symm q1 q2)
  rw [if_neg q0] at eq
  refine w_ite (fun q => w_born (w_X10_told (w := 4) (by omega) ?_)) (fun q1 => ?_)
  · have q : fS S t = 1 := q
    rw [if_pos q] at eq
    rw [S8, eH]
    exact w_isWithin' (ru := t) (2 * a + 1) (by omega) (by omega) ⟨by omega, by omega⟩ ⟨by omega, by omega⟩ hs8 hb ru8 (fun z' q1 q2 => fin z' _ eq.symm q1 q2)
  have q1 : ¬ fS S t = 1 := q1
  rw [if_neg q1] at eq
  refine w_ite (fun q => w_born (w_born ?_)) (fun q2 => ?_)
  · have q : fS S t = 2 := q
    rw [if_pos q] at eq
    refine w_differ' (ru := t) (2 * a) (2 * b) (by omega) (by omega) (by omega) (by omega) ⟨by omega, by omega⟩ ⟨by omega, by omega⟩ hs8 hb ru8 (fun z1 s1 f1 => w_born (w_born ?_))
    have hb1 := apl_RB hb (hok _ (by rw [← eq]; exact List.mem_cons_self ..))
    exact w_differ' (ru := t) (2 * b + 1) (2 * a) (by omega) (by omega) (by omega) (by omega) ⟨by omega, by omega⟩ ⟨by omega, by omega⟩ s1 hb1 (f1.ru ru8) (fun z2 s2 f2 => fin z2 _ eq.symm s2 (f1.tr f2))
  have q2 : ¬ fS S t = 2 := q2
  rw [if_neg q2] at eq
  refine w_ite (fun q => w_born (w_born ?_)) (fun q3 => ?_)
  · have q : fS S t = 3 := q
    rw [if_pos q] at eq
    refine w_differ' (ru := t) (2 * a) (2 * b) (by omega) (by omega) (by omega) (by omega) ⟨by omega, by omega⟩ ⟨by omega, by omega⟩ hs8 hb ru8 (fun z1 s1 f1 => w_born (w_born ?_))
    have hb1 := apl_RB hb (hok _ (by rw [← eq]; exact List.mem_cons_self ..))
    exact w_differ' (ru := t) (2 * b + 1) (2 * a) (by omega) (by omega) (by omega) (by omega) ⟨by omega, by omega⟩ ⟨by omega, by omega⟩ s1 hb1 (f1.ru ru8) (fun z2 s2 f2 => fin z2 _ eq.symm s2 (f1.tr f2))
  have q3 : ¬ fS S t = 3 := q3
  rw [if_neg q3] at eq
  refine w_ite (fun q => w_year (w_X10_told (w := 4) (by omega) ?_)) (fun q4 => ?_)
  · have q : fS S t = 4 := q
    have ht60 := h4 q
    rw [if_pos q] at eq
    rw [S8, eH]
    refine w_isWithin' (ru := t) (60 + t) (by omega) (by omega) ⟨by omega, by omega⟩ ⟨by omega, by omega⟩ hs8 hb ru8 (fun z1 s1 f1 => w_year (w_born ?_))
    have hb1 := apl_RB hb (hok _ (by rw [← eq]; exact List.mem_cons_self ..))
    refine w_differ' (ru := t) (60 + t) (2 * a) (by omega) (by omega) (by omega) (by omega) ⟨by omega, by omega⟩ ⟨by omega, by omega⟩ s1 hb1 (f1.ru ru8) (fun z2 s2 f2 => w_born ?_)
    have hb2 := apl_RB hb1 (hok (60 + t, ((2 * a : Nat) : Int), 14, 110, (t : Int)) (by rw [← eq]; simp))
    refine w_differ' (ru := t) (2 * a + 1) (60 + t) (by omega) (by omega) (by omega) (by omega) ⟨by omega, by omega⟩ ⟨by omega, by omega⟩ s2 hb2 (f2.ru (f1.ru ru8)) (fun z3 s3 f3 => w_year (w_born ?_))
    have hb3 := apl_RB hb2 (hok (2 * a + 1, ((60 + t : Nat) : Int), 0, 100000, (t : Int)) (by rw [← eq]; simp))
    refine w_differ' (ru := t) (60 + t) (2 * b) (by omega) (by omega) (by omega) (by omega) ⟨by omega, by omega⟩ ⟨by omega, by omega⟩ s3 hb3 (f3.ru (f2.ru (f1.ru ru8))) (fun z4 s4 f4 => w_born ?_)
    have hb4 := apl_RB hb3 (hok (60 + t, ((2 * b : Nat) : Int), 14, 110, (t : Int)) (by rw [← eq]; simp))
    exact w_differ' (ru := t) (2 * b + 1) (60 + t) (by omega) (by omega) (by omega) (by omega) ⟨by omega, by omega⟩ ⟨by omega, by omega⟩ s4 hb4 (f4.ru (f3.ru (f2.ru (f1.ru ru8)))) (fun z5 s5 f5 => fin z5 _ eq.symm s5 (f1.tr (f2.tr (f3.tr (f4.tr f5)))))
  have q4 : ¬ fS S t = 4 := q4
  rw [if_neg q4] at eq
  refine w_ite (fun q => ?_) (fun q5 => ?_)
  · have q : fS S t = 5 := q
    rw [if_neg (by omega), if_neg (by omega)] at eq
    exact fin z8 _ eq.symm hs8 RFr.rf
  refine w_ite (fun q => w_born ?_) (fun q6 => ?_)
  · have q : fS S t = 6 := q
    rw [if_pos q] at eq
    refine w_narrows' (ru := t) (2 * (2 * a) + 1) (by omega) (by omega) ⟨by omega, by omega⟩ hs8 hb ru8 (fun z1 s1 f1 => w_born ?_)
    have hb1 := nar_RB (ru := t) (e := 2 * (2 * a) + 1) (v := fL S t) (b := -5) hb (fun _ => ⟨by omega, by omega⟩)
    refine w_narrows' (ru := t) (2 * (2 * a + 1)) (by omega) (by omega) ⟨by omega, by omega⟩ s1 hb1 (f1.ru ru8) (fun z2 s2 f2 => fin z2 _ eq.symm ?_ (f1.tr f2))
    have hb2 := nar_RB (ru := t) (e := 2 * (2 * a + 1)) (v := fL S t) (b := -5) hb1 (fun _ => ⟨by omega, by omega⟩)
    rw [List.foldl_cons, List.foldl_cons, List.foldl_nil, apl_one, apl_one, nar_dn hb (by omega) (fun _ => by omega), nar_up hb2 (by omega) (fun _ => by omega)]
    exact s2
  have q6 : ¬ fS S t = 6 := q6
  rw [if_neg q6] at eq
  refine w_ite (fun q => w_born (w_born ?_)) (fun q7 => ?_)
  · have q : fS S t = 7 := q
    rw [if_pos q] at eq
    exact w_differ' (ru := t) (2 * b) (2 * a) (by omega) (by omega) (by omega) (by omega) ⟨by omega, by omega⟩ ⟨by omega, by omega⟩ hs8 hb ru8 (fun z2 s2 f2 => fin z2 _ eq.symm s2 f2)
  · have q7 : ¬ fS S t = 7 := q7
    rw [if_neg q7] at eq
    exact fin z8 _ eq.symm hs8 RFr.rf
