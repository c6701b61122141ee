/-! the class's working out -/
theorem sel_ls {S : Nat → Int} {w : Int} {m : Nat} (hm : m ≤ 61) (hS0 : S 0 = sN S ∧ sN S ≤ 30) (ho : ∀ t, t < m → StOk (sN S) S t) : LsOk S m (selK S w m) := ⟨by have := selK_len S w m; omega, hm, hS0, fun t ht => ⟨(selK_mem ht).1, ho t (selK_mem ht).1⟩⟩
set_option maxHeartbeats 1000000 in
theorem w_X8_work {t r1 m F : Nat} {w : Int} {S : Nat → Int} {z : Hp} {K : Hp → Prop} (hd : r1 + 40 ≤ t) (hm : m ≤ 61) (hw : rg w) (hF : 1 ≤ F ∧ F ≤ 1000000) (hS0 : S 0 = sN S ∧ sN S ≤ 30) (ho : ∀ t, t < m → StOk (sN S) S t ∧ (fS S t = 4 → t < 60)) (hb : BkSt z r1 S m) (h0 : z r1 0 = S 0) (hpx : ∀ p, p < sN S → z (r1 + 33) p = pX S p ∧ 0 ≤ pX S p ∧ pX S p ≤ 2) (hv : ∀ t, t < m → z (r1 + 39) t = fV S t) (k : ∀ z' : Hp, ClsW z' t S (selK S w m) F → (∀ c, c < t ∨ t + 21 < c → z' c = z c) → K z') : cal_X8_work t r1 m w F z K := by
  have hls := sel_ls (w := w) hm hS0 (fun t ht => (ho t ht).1)
  have hlm := selK_len S w m
  have hmem : ∀ t ∈ selK S w m, StOk (sN S) S t := fun t ht => (hls.2.2.2 t ht).2
  have hgg : gGood (sN S) (gL S (selK S w m)) := by have := gL_good' hls (selK S w m).length; rwa [List.take_length] at this
  have hn := hS0.2
  unfold cal_X8_work
  refine hp_i (lt_i ?_)
  refine LP1_for m (fun j z' => z' t 1 = ((selK S w j).length : Int) ∧ Said z' (t + 1) (selK S w j) ∧ ∀ c, c ≠ t → c ≠ t + 1 → z' c = z c) 0 rfl (by omega) ⟨kup_eq, fun j hj => absurd hj (by simp [selK, lvK]), fun c c0 _ => by funext q; exact kup_c c0⟩ (fun X j z1 hj hI hX => ?_) (fun X z1 hI => ?_)
  · obtain ⟨i1, i2, i3⟩ := hI
    refine jn_i (fun _ => True) trivial (fun J6 _ => ?_)
    refine w_if2 ⟨by omega, by omega⟩ ⟨by omega, by omega⟩ (fun e => absurd e (by omega)) (fun _ => w_if ⟨by omega, by omega⟩ (fun e => absurd e (by omega)) (fun _ => ?_))
    have lj := selK_len S w j
    have hX2 : ∀ z' : Hp, z' t 1 = ((selK S w (j + 1)).length : Int) → Said z' (t + 1) (selK S w (j + 1)) → (∀ c, c ≠ t → c ≠ t + 1 → z' c = z c) → X ((j : Int) + 1) z' := fun z' a b c => hX z' ⟨a, b, c⟩
    rw [selK_succ] at hX2
    have hvj := hv j hj
    have rv : rg (fV S j) := (ho j hj).1.rgs.2
    refine jn_i (fun J => ∀ z' : Hp, z' t 1 = ((selK S w j ++ (if fV S j = 1 ∧ (j : Int) ≠ w then [j] else [])).length : Int) → Said z' (t + 1) (selK S w j ++ (if fV S j = 1 ∧ (j : Int) ≠ w then [j] else [])) → (∀ c, c ≠ t → c ≠ t + 1 → z' c = z c) → J z') (fun z' a b c => lt_i (hX2 z' a b c)) (fun J hJ => ?_)
    refine w_if2 ⟨by omega, by omega⟩ hw (fun e => ?_) (fun e => ⟨⟨by omega, by omega⟩, ?_⟩)
    · rw [if_neg (fun q => q.2 e), List.append_nil] at hJ
      exact hJ z1 i1 i2 i3
    · rw [Int.toNat_natCast, i3 (r1 + 39) (by omega) (by omega), hvj]
      refine w_if rv (fun e1 => ?_) (fun e1 => ?_)
      · rw [if_pos ⟨e1, e⟩] at hJ
        rw [i1, Int.toNat_natCast]
        refine ⟨⟨by omega, by omega⟩, hp_i (hp_i (hJ _ ?_ (fun i hi => ?_) (fun c c0 c1 => ?_)))⟩
        · rw [kup_eq, kup_c (by omega), i1, List.length_append, List.length_singleton]; omega
        · rw [kup_c (by omega)]
          by_cases g : i = (selK S w j).length
          · subst g
            rw [kup_eq, List.getD_eq_getElem?_getD, List.getElem?_append_right (Nat.le_refl _), Nat.sub_self]; rfl
          · have hi' : i < (selK S w j).length := by
              rw [List.length_append, List.length_singleton] at hi; omega
            rw [kup_n (fun q => g q.2), List.getD_eq_getElem?_getD, List.getElem?_append_left hi', ← List.getD_eq_getElem?_getD]
            exact i2 i hi'
        · funext q; rw [kup_c c0, kup_c c1, i3 c c0 c1]
      · rw [if_neg (fun q => e1 q.1), List.append_nil] at hJ
        exact hJ z1 i1 i2 i3
  obtain ⟨i1, i2, i3⟩ := hI
  refine jn_i (fun J => J z1) ?_ (fun J6 hJ => w_if2 ⟨by omega, by omega⟩ ⟨by omega, by omega⟩ (fun _ => hJ) (fun e => absurd e (by omega)))
  generalize hL : selK S w m = l at *
  rw [i1]
  refine w_X1_gather (m := m) (S := S) (by omega) hls (hb.to (fun c hc => i3 c (by omega) (by omega))) (by rw [i3 r1 (by omega) (by omega)]; exact h0) (fun p hp => by rw [i3 (r1 + 33) (by omega) (by omega)]; exact hpx p hp) i2 (fun z2 ab hF2 hf2 => ?_)
  refine w_X3_wipe (fun z3 hc3 h38 h39 _ hf3 => hp_i (hp_i ?_))
  have ft : ∀ c, c ≠ t → (c < t + 2 ∨ t + 16 < c) → (kup (kup z3 t 4 0) t 5 (-5)) c = z1 c := fun c c0 q => by
    funext i; rw [kup_c c0, kup_c c0, hf3 c (by omega) (by omega) (by omega) (by omega), hf2 c (by omega)]
  have fF : FolkIs (kup (kup z3 t 4 0) t 5 (-5)) (t + 2) S l ab := hF2.to (fun c a b => by funext i; rw [kup_c (by omega), kup_c (by omega), hf3 c (by omega) (by omega) (by omega) (by omega)])
  have fC : ClsR (kup (kup z3 t 4 0) t 5 (-5)) (t + 13) (cSt (z2 (t + 13) 11)) := by
    obtain ⟨a, b, c⟩ := hc3
    refine ⟨fun e he => ?_, ?_, ?_⟩
    · rw [kup_c (by omega), kup_c (by omega), kup_c (by omega), kup_c (by omega), kup_c (by omega), kup_c (by omega)]; exact a e he
    · rw [kup_c (by omega), kup_c (by omega)]; exact b
    · rw [kup_c (by omega), kup_c (by omega)]; exact c
  have f8 : (kup (kup z3 t 4 0) t 5 (-5)) (t + 13) 8 = 0 := by rw [kup_c (by omega), kup_c (by omega)]; exact h38
  have f9 : (kup (kup z3 t 4 0) t 5 (-5)) (t + 13) 9 = 0 := by rw [kup_c (by omega), kup_c (by omega)]; exact h39
  have s4 : (kup (kup z3 t 4 0) t 5 (-5)) t 4 = 0 := by rw [kup_n (fun q => absurd q.2 (by decide)), kup_eq]
  have s5 : (kup (kup z3 t 4 0) t 5 (-5)) t 5 = -5 := kup_eq
  have s1 : (kup (kup z3 t 4 0) t 5 (-5)) t 1 = (l.length : Int) := by
    rw [kup_n (fun q => absurd q.2 (by decide)), kup_n (fun q => absurd q.2 (by decide)), hf3 t (by omega) (by omega) (by omega) (by omega), hf2 t (by omega)]; exact i1
  have ss : Said (kup (kup z3 t 4 0) t 5 (-5)) (t + 1) l := fun j hj => by rw [ft (t + 1) (by omega) (by omega)]; exact i2 j hj
  generalize kup (kup z3 t 4 0) t 5 (-5) = z4 at *
  obtain ⟨hab, _, hall, hg1, _, ⟨hx3, hx4, hx5, _⟩, hab7, _⟩ := id fF
  have m2 := paL_ok (S := S) (s := 2) (Or.inl rfl) hgg l hmem
  have m3 := paL_ok (S := S) (s := 3) (Or.inr rfl) hgg l hmem
  have sxb : ∀ p, sxL S (gL S l) (sxK S (gL S l) (sN S)) l p < 4 := sxL_ok (sxK_lt (sN S) (fun p hp => (hpx p hp).2)) l
  -- the three firsts
  refine w_X1_leastOfBothSexes hx3 sxb (fun v1 hv1 => ?_)
  have rv1 := hv1.rg (by omega)
  refine w_X8_note (by rw [s4]; exact rg0) ⟨by omega, by omega⟩ (fun z5 n4 n5 nj nf => ?_)
  rw [s4] at n4 n5
  rw [s5] at n5
  have e5 : ∀ c, c ≠ t → z5 c = z4 c := nf
  refine w_X1_leastOfUnlikeParents (hx4.to (e5 _ (by omega))) (hx5.to (e5 _ (by omega))) (fun p hp => p30 hn (m2 p).1) (fun p hp => p30 hn (m3 p).1) (fun v2 hv2 => ?_)
  have rv2 := hv2.rg (by omega)
  have r5 : rg (z5 t 4) := by rw [n4]; split <;> constructor <;> decide
  refine w_X8_note r5 ⟨by omega, by omega⟩ (fun z6 o4 o5 oj of => ?_)
  refine w_X1_leastRing (hab7.to (by rw [of _ (by omega), nf _ (by omega)])) (fun p hp => p30 hn (hab p hp).1) (fun v3 hv3 => ?_)
  have rv3 := hv3.rg (by omega)
  have r6 : rg (z6 t 4) := by rw [o4]; split
                              · constructor <;> decide
                              · exact r5
  refine w_X8_note r6 ⟨by omega, by omega⟩ (fun z7 p4 p5 pj pf => ?_)
  have hcl : z7 t 4 = (clOf v1 v2 v3).1 ∧ z7 t 5 = (clOf v1 v2 v3).2 := by
    rw [p4, p5, o4, o5, n4, n5]
    unfold clOf
    by_cases c1 : 0 ≤ v1
    · simp [c1]
    · by_cases c2 : 0 ≤ v2
      · simp [c1, c2]
      · by_cases c3 : 0 ≤ v3
        · simp [c1, c2, c3]
        · simp [c1, c2, c3]
  have k1 : IsFst (sN S) (P1f S l) v1 := hv1.cg hn (fun p hp => by
    unfold P1f
    rw [sx_eq hgg hmem p]
    exact ⟨fun h => by
      have q := sx_one (i := 0) hgg hmem (p := p) (by rw [sx_eq hgg hmem p, h]; decide)
      exact ⟨q.1, q.2, h⟩, fun h => h.2.2⟩)
  have k2 : IsFst (sN S) (P2f S l) v2 := hv2.cg hn (fun p hp => ⟨fun h => ⟨Decidable.byContradiction fun q => by
      unfold P2f at h
      rw [(m2 p).2 (by omega), (m3 p).2 (by omega), cntB_0] at h
      omega, h⟩, fun h => h.2⟩)
  have hpk := paOk_or m2 m3
  have k3 : IsFst (sN S) (P3f ab) v3 := hv3.cg hn (fun p hp => ⟨fun h => ⟨Rch.first hpk (((hab p hp).2 p).mp h), h⟩, fun h => h.2⟩)
  have hlk := clOf_lk k1 k2 k3
  have e7 : ∀ c, c ≠ t → z7 c = z4 c := fun c hc => by rw [pf c hc, of c hc, nf c hc]
  have g1 : z7 t 1 = (l.length : Int) := by rw [pj 1 (by decide) (by decide), oj 1 (by decide) (by decide), nj 1 (by decide) (by decide)]; exact s1
  have gs : Said z7 (t + 1) l := fun j hj => by rw [e7 (t + 1) (by omega)]; exact ss j hj
  have gF : FolkIs z7 (t + 2) S l ab := fF.to (fun c a b => e7 c (by omega))
  have gC : ClsR z7 (t + 13) (cSt (z2 (t + 13) 11)) := by
    obtain ⟨a, b, c⟩ := fC
    refine ⟨fun e he => ?_, ?_, ?_⟩
    · rw [e7 (t + 13 + 1) (by omega), e7 (t + 13 + 2) (by omega), e7 (t + 13 + 3) (by omega)]; exact a e he
    · rw [e7 (t + 13) (by omega)]; exact b
    · rw [e7 (t + 13) (by omega)]; exact c
  have g8 : z7 (t + 13) 8 = 0 := by rw [e7 (t + 13) (by omega)]; exact f8
  have g9 : z7 (t + 13) 9 = 0 := by rw [e7 (t + 13) (by omega)]; exact f9
  have gfr : ∀ c, c < t ∨ t + 21 < c → z7 c = z c := fun c hc => by rw [e7 c (by omega), ft c (by omega) (by omega), i3 c (by omega) (by omega)]
  have rcl : rg (z7 t 4) := by
    rw [p4]; split
    · constructor <;> decide
    · exact r6
  refine w_if rcl (fun e => ?_) (fun e => k z7 ⟨g1, gs, ab, _, _, gF, hlk, hcl.2, Or.inl ⟨by rw [← hcl.1]; exact e, hcl.1, ⟨_, gC⟩, g9⟩⟩ gfr)
  have all := allR_ok (S := S) (g := gL S l) (l := l) hn rfl hgg (fun t ht => ⟨hmem t ht, (ho t (by rw [← hL] at ht; exact (selK_mem ht).1)).2⟩)
  have hlen : (allR S (gL S l) l).length ≤ 335 := by
    unfold allR
    rw [List.length_append]
    have a1 := lifeR_len (gL S l) (sN S)
    have a2 := stR_len S (gL S l) l
    have a3 := hls.1
    omega
  refine w_X8_takeRules (m := m) (S := S) (g := gL S l) (l := l) hd hls (hb.to (fun c hc => gfr c (by omega))) (hg1.to (e7 _ (by omega))) hgg (by rw [e7 (t + 2) (by omega)]; exact hall) g1 gs g8 (fun z8 hr hf => ?_)
  have gC8 : ClsR z8 (t + 13) (cSt (z2 (t + 13) 11)) := by
    obtain ⟨a, b, c⟩ := gC
    refine ⟨fun e he => ?_, ?_, ?_⟩
    · rw [hf.2 (t + 13 + 1) (by omega) (by omega) (by omega) (by omega) (by omega) (by omega), hf.2 (t + 13 + 2) (by omega) (by omega) (by omega) (by omega) (by omega) (by omega), hf.2 (t + 13 + 3) (by omega) (by omega) (by omega) (by omega) (by omega) (by omega)]; exact a e he
    · rw [hf.1 10 (by decide)]; exact b
    · rw [hf.1 11 (by decide)]; exact c
  refine w_X3_narrow (l := allR S (gL S l) l) (s := cSt (z2 (t + 13) 11)) hF.1 hF.2 all hlen hr.1 hr.2 (by rw [hf.1 9 (by decide)]; exact g9) gC8 rSt0_RB rfl (fun v z9 c1 c2 c3 c4 c5 c6 => ?_)
  rw [cSt_run _ _ F 0 hF.1] at c1 c2 c3 c4 c5
  have h9 : ∀ c, c ≠ t → (c < t + 13 ∨ t + 21 < c) → z9 c = z7 c := fun c c0 q => by rw [c6.2 c (by omega) (by omega) (by omega) (by omega), hf.2 c (by omega) (by omega) (by omega) (by omega) (by omega) (by omega)]
  have h9t : z9 t = z7 t := by rw [c6.2 t (by omega) (by omega) (by omega) (by omega), hf.2 t (by omega) (by omega) (by omega) (by omega) (by omega) (by omega)]
  have fin : ∀ x : Int, ((x = 0 ∧ rCl (runR (allR S (gL S l) l) F 0 rSt0).2 = 0 ∧ rCh (runR (allR S (gL S l) l) F 0 rSt0).2 = 0) ∨ (x = 4 ∧ ¬ (rCl (runR (allR S (gL S l) l) F 0 rSt0).2 = 0 ∧ rCh (runR (allR S (gL S l) l) F 0 rSt0).2 = 0))) → K (kup z9 t 4 x) := fun x hx => by
    refine k _ ⟨?_, fun j hj => ?_, ab, _, _, gF.to (fun c a b => ?_), hlk, ?_, Or.inr ⟨by rw [← hcl.1]; exact e, ?_, ?_, ?_⟩⟩ (fun c hc => ?_)
    · rw [kup_n (fun q => absurd q.2 (by decide)), h9t]; exact g1
    · rw [kup_c (by omega), h9 (t + 1) (by omega) (by omega)]; exact gs j hj
    · funext i; rw [kup_c (by omega), h9 c (by omega) (by omega)]
    · rw [kup_n (fun q => absurd q.2 (by decide)), h9t]; exact hcl.2
    · obtain ⟨a, b, c⟩ := c1
      refine ⟨fun e he => ?_, ?_, ?_⟩
      · rw [kup_c (by omega), kup_c (by omega), kup_c (by omega)]; exact a e he
      · rw [kup_c (by omega)]; exact b
      · rw [kup_c (by omega)]; exact c
    · rw [kup_c (by omega)]; exact c4
    · rw [kup_eq]; exact hx
    · funext i; rw [kup_c (by omega), c6.2 c (by omega) (by omega) (by omega) (by omega), hf.2 c (by omega) (by omega) (by omega) (by omega) (by omega) (by omega), gfr c hc]
  rcases c5 with ⟨rfl, q1, q2⟩ | ⟨rfl, q⟩
  · exact w_t rg1 (hp_i (fin 0 (Or.inl ⟨rfl, q1, q2⟩)))
  · exact w_f rg0 (hp_i (fin 4 (Or.inr ⟨rfl, q⟩)))
