/-! sexes, spouses, marriages, and the class's hearing of them -/
def sxst (S : Nat → Int) (g : Nat → Nat) (m : Nat → Nat) (t : Nat) : Nat → Nat := if fS S t = 2 then fup m (g (fB S t).toNat) (m (g (fB S t).toNat) ||| 1) else if fS S t = 3 then fup m (g (fB S t).toNat) (m (g (fB S t).toNat) ||| 2) else m
def sxL (S : Nat → Int) (g : Nat → Nat) (m : Nat → Nat) (l : List Nat) : Nat → Nat := l.foldl (sxst S g) m
def spst (S : Nat → Int) (g : Nat → Nat) (m : Nat → Nat) (t : Nat) : Nat → Nat := if fS S t = 4 then (fun p => (m p ||| (if g (fA S t) = p then 2 ^ g (fB S t).toNat else 0)) ||| (if g (fB S t).toNat = p then 2 ^ g (fA S t) else 0)) else m
def spL (S : Nat → Int) (g : Nat → Nat) (l : List Nat) : Nat → Nat := l.foldl (spst S g) (fun _ => 0)
def mgst (S : Nat → Int) (g : Nat → Nat) (m : Nat → Nat) (t : Nat) : Nat → Nat := if fS S t = 4 then (fun p => m p + (if g (fA S t) = p ∨ g (fB S t).toNat = p then 1 else 0)) else m
def mgL (S : Nat → Int) (g : Nat → Nat) (l : List Nat) : Nat → Nat := l.foldl (mgst S g) (fun _ => 0)
theorem sxL_snoc (S : Nat → Int) (g m : Nat → Nat) (l : List Nat) (t : Nat) : sxL S g m (l ++ [t]) = sxst S g (sxL S g m l) t := by unfold sxL; rw [List.foldl_append]; rfl
theorem spL_snoc (S : Nat → Int) (g : Nat → Nat) (l : List Nat) (t : Nat) : spL S g (l ++ [t]) = spst S g (spL S g l) t := by unfold spL; rw [List.foldl_append]; rfl
theorem mgL_snoc (S : Nat → Int) (g : Nat → Nat) (l : List Nat) (t : Nat) : mgL S g (l ++ [t]) = mgst S g (mgL S g l) t := by unfold mgL; rw [List.foldl_append]; rfl
theorem sxL_ok {S : Nat → Int} {g m : Nat → Nat} (hm : ∀ p, m p < 4) (l : List Nat) : ∀ p, sxL S g m l p < 4 := by
  refine foldl_inv (I := fun m : Nat → Nat => ∀ p, m p < 4) _ _ hm (fun m t _ hm p => ?_)
  unfold sxst
  split
  · by_cases e : p = g (fB S t).toNat
    · rw [e, fup_eq]; exact Nat.or_lt_two_pow (n := 2) (hm _) (by decide)
    · rw [fup_ne e]; exact hm p
  · split
    · by_cases e : p = g (fB S t).toNat
      · rw [e, fup_eq]; exact Nat.or_lt_two_pow (n := 2) (hm _) (by decide)
      · rw [fup_ne e]; exact hm p
    · exact hm p
theorem spL_ok {S : Nat → Int} {n : Nat} {g : Nat → Nat} (hg : gGood n g) (l : List Nat) (hl : ∀ t ∈ l, StOk n S t) : ∀ p, spL S g l p < 2 ^ n := by
  refine foldl_inv (I := fun m : Nat → Nat => ∀ p, m p < 2 ^ n) _ _ (fun p => Nat.pow_pos (by decide)) (fun m t ht hm p => ?_)
  unfold spst
  split
  · next h4 =>
    have ha := hg.lt (hl t ht).a
    have hb := hg.lt ((hl t ht).b (isTwo_of (by omega)))
    refine Nat.or_lt_two_pow (Nat.or_lt_two_pow (hm p) ?_) ?_
    · split
      · exact Nat.pow_lt_pow_right (by decide) hb
      · exact Nat.pow_pos (by decide)
    · split
      · exact Nat.pow_lt_pow_right (by decide) ha
      · exact Nat.pow_pos (by decide)
  · exact hm p
def Hst (z : Hp) (f : Nat) (S : Nat → Int) (g m : Nat → Nat) (l : List Nat) : Prop := Row z (f + 3) (sxL S g m l) ∧ Row z (f + 4) (paL S g 2 l) ∧ Row z (f + 5) (paL S g 3 l) ∧ Row z (f + 6) (fun p => paL S g 2 l p ||| paL S g 3 l p) ∧ Row z (f + 8) (spL S g l) ∧ Row z (f + 9) (mgL S g l)
theorem Hst.keep {z z' : Hp} {f : Nat} {S : Nat → Int} {g m : Nat → Nat} {l : List Nat} (h : Hst z f S g m l) (e : ∀ c, f + 3 ≤ c → c ≤ f + 9 → z' c = z c) : Hst z' f S g m l :=
  ⟨h.1.to (e _ (by omega) (by omega)), h.2.1.to (e _ (by omega) (by omega)), h.2.2.1.to (e _ (by omega) (by omega)), h.2.2.2.1.to (e _ (by omega) (by omega)), h.2.2.2.2.1.to (e _ (by omega) (by omega)), h.2.2.2.2.2.to (e _ (by omega) (by omega))⟩
theorem Row.cg {z : Hp} {c : Nat} {f f' : Nat → Nat} (h : Row z c f) (e : ∀ p, f p = f' p) : Row z c f' := fun p hp => by rw [← e p]; exact h p hp
theorem Row.off {z : Hp} {c d i : Nat} {x : Int} {f : Nat → Nat} (h : Row z c f) (e : c ≠ d) : Row (kup z d i x) c f := h.to (by funext q; exact kup_c e)
theorem Row.orn {z : Hp} {c i x : Nat} {f : Nat → Nat} (hr : Row z c f) (hi : i < 30) (hf : f i < 1073741824) (hx : x < 1073741824) : Row (kup z c i (ior (z c i) x)) c (fup f i (f i ||| x)) := fun p hp => by
  by_cases e : p = i
  · subst e; rw [kup_eq, fup_eq, hr p hp, ior_n (by omega) (by omega)]
  · rw [kup_n (fun q => e q.2), fup_ne e, hr p hp]
theorem w_X1_hear {t r1 m τ n : Nat} {S : Nat → Int} {g sx : Nat → Nat} {l : List Nat} {z : Hp} {K : Hp → Prop} (hd : r1 + 40 ≤ t) (hm : m ≤ 61) (hn : n ≤ 30) (hb : BkSt z r1 S m) (hτ : τ < m) (ho : StOk n S τ) (hl : ∀ t ∈ l, StOk n S t) (hg : Row z (t + 1) g) (hgg : gGood n g) (hsx : ∀ p, sx p < 4) (hH : Hst z t S g sx l) (k : ∀ z' : Hp, Hst z' t S g sx (l ++ [τ]) → (∀ c, c ≠ t + 3 → c ≠ t + 4 → c ≠ t + 5 → c ≠ t + 6 → c ≠ t + 8 → c ≠ t + 9 → z' c = z c) → K z') : cal_X1_hear t r1 τ z K := by
  obtain ⟨b1, b2, b3, b4, b5⟩ := hb τ hτ
  obtain ⟨h3, h4, h5, h6, h8, h9⟩ := hH
  have q0 := ho.1
  have hsn : ∀ p, sxL S g sx l p < 1073741824 := fun p => by have := sxL_ok (S := S) (g := g) hsx l p; omega
  have m2 := fun p => p30 hn (paL_ok (S := S) (s := 2) (Or.inl rfl) hgg l hl p).1
  have m3 := fun p => p30 hn (paL_ok (S := S) (s := 3) (Or.inr rfl) hgg l hl p).1
  have m8 := fun p => p30 hn (spL_ok (S := S) hgg l hl p)
  unfold cal_X1_hear
  rw [Int.toNat_natCast, b1]
  refine ⟨⟨by omega, by omega⟩, lt_i ?_⟩
  refine jn_i (fun J => (fS S τ = 2 ∨ fS S τ = 3 ∨ fS S τ = 4) → J) (fun q => ?_) (fun J hJ => ⟨⟨by omega, by omega⟩, w_ite (fun e => hJ (by omega)) (fun e2 => ⟨⟨by omega, by omega⟩, w_ite (fun e => hJ (by omega)) (fun e3 => ⟨⟨by omega, by omega⟩, w_ite (fun e => hJ (by omega)) (fun e4 => ?_)⟩)⟩)⟩)
  rotate_left
  · refine k z ⟨?_, ?_, ?_, ?_, ?_, ?_⟩ (fun _ _ _ _ _ _ _ => rfl)
    · rw [sxL_snoc]; unfold sxst; rw [if_neg e2, if_neg e3]; exact h3
    · rw [paL_snoc]; unfold mst; rw [if_neg e2]; exact h4
    · rw [paL_snoc]; unfold mst; rw [if_neg e3]; exact h5
    · rw [paL_snoc, paL_snoc]; unfold mst; rw [if_neg e2, if_neg e3]; exact h6
    · rw [spL_snoc]; unfold spst; rw [if_neg e4]; exact h8
    · rw [mgL_snoc]; unfold mgst; rw [if_neg e4]; exact h9
  have two : isTwo (fS S τ) := isTwo_of (by omega)
  have ha := ho.a
  have hb' := ho.b two
  have e2 : fB S τ = ((fB S τ).toNat : Int) := by
    rcases ho.2.2.1 with q | q
    · omega
    · exact absurd two q.1
  rw [b2, b3, e2]
  refine ⟨⟨by omega, by omega⟩, ⟨by omega, by omega⟩, lt_i ⟨⟨by omega, by omega⟩, ⟨by omega, by omega⟩, lt_i ?_⟩⟩
  rw [Int.toNat_natCast, Int.toNat_natCast, hg _ (by omega), hg _ (by omega)]
  have ga := hgg.lt ha
  have gb := hgg.lt hb'
  have ha30 : g (fA S τ) < 30 := by omega
  have hb30 : g (fB S τ).toNat < 30 := by omega
  have rA := sxL_snoc S g sx l τ
  have rB := paL_snoc S g 2 l τ
  have rC := paL_snoc S g 3 l τ
  have rD := spL_snoc S g l τ
  have rE := mgL_snoc S g l τ
  unfold sxst at rA
  unfold mst at rB rC
  unfold spst at rD
  unfold mgst at rE
  generalize g (fA S τ) = a at *
  generalize g (fB S τ).toNat = b at *
  refine ⟨⟨by omega, by omega⟩, w_ite (fun e4 => ?_) (fun e4 => ?_)⟩
  · rw [if_neg (by omega), if_neg (by omega)] at rA
    rw [if_neg (by omega)] at rB rC
    rw [if_pos e4] at rD rE
    refine ⟨⟨by omega, by omega⟩, ⟨by omega, by omega⟩, hp_i ⟨⟨by omega, by omega⟩, ⟨by omega, by omega⟩, hp_i ⟨⟨by omega, by omega⟩, ⟨by omega, by omega⟩, hp_i ⟨⟨by omega, by omega⟩, ⟨by omega, by omega⟩, ⟨by omega, by omega⟩, ?_⟩⟩⟩⟩
    rw [Int.toNat_natCast, Int.toNat_natCast]
    have s8 : Row (kup z (t + 8) a (ior (z (t + 8) a) (ishl 1 b))) (t + 8) (fup (spL S g l) a (spL S g l a ||| 2 ^ b)) := h8.or ha30 (m8 a) hb30
    generalize hz1 : kup z (t + 8) a (ior (z (t + 8) a) (ishl 1 b)) = z1 at *
    have f1 : ∀ c, c ≠ t + 8 → z1 c = z c := fun c hc => by rw [← hz1]; funext q; exact kup_c hc
    have m8' : fup (spL S g l) a (spL S g l a ||| 2 ^ b) b < 1073741824 := by
      by_cases e : b = a
      · subst e; rw [fup_eq]; exact or_lt (m8 b) (pow_lt30 hb30)
      · rw [fup_ne e]; exact m8 b
    have s8' := s8.or hb30 m8' ha30
    generalize hz2 : kup z1 (t + 8) b (ior (z1 (t + 8) b) (ishl 1 a)) = z2 at *
    have f2 : ∀ c, c ≠ t + 8 → z2 c = z c := fun c hc => by rw [← hz2, ← f1 c hc]; funext q; exact kup_c hc
    have t8 : Row z2 (t + 8) (spL S g (l ++ [τ])) := by
      rw [rD]
      refine s8'.cg (fun p => ?_)
      by_cases eb : p = b
      · by_cases ea : b = a
        · subst eb ea
          simp only [fup_eq, if_true]
        · subst eb
          rw [fup_eq, fup_ne ea, if_pos rfl, if_neg (fun q => ea q.symm), Nat.or_zero]
      · rw [fup_ne eb, if_neg (show ¬ b = p from fun q => eb q.symm), Nat.or_zero]
        by_cases ea : p = a
        · subst ea; rw [fup_eq, if_pos rfl]
        · rw [fup_ne ea, if_neg (show ¬ a = p from fun q => ea q.symm), Nat.or_zero]
    have g9 : Row z2 (t + 9) (mgL S g l) := h9.to (f2 _ (by omega))
    have s9 : Row (kup z2 (t + 9) a (z2 (t + 9) a + 1)) (t + 9) (fup (mgL S g l) a (mgL S g l a + 1)) := by
      rw [g9 a ha30]
      exact g9.up (x := mgL S g l a + 1)
    generalize hz3 : kup z2 (t + 9) a (z2 (t + 9) a + 1) = z3 at *
    have f3 : ∀ c, c ≠ t + 9 → z3 c = z2 c := fun c hc => by rw [← hz3]; funext q; exact kup_c hc
    have fin : ∀ z4 : Hp, Row z4 (t + 9) (mgL S g (l ++ [τ])) → (∀ c, c ≠ t + 9 → z4 c = z3 c) → K z4 := fun z4 r9 f4 => by
      have f5 : ∀ c, c ≠ t + 8 → c ≠ t + 9 → z4 c = z c := fun c h1 h2 => by rw [f4 c h2, f3 c h2, f2 c h1]
      refine k z4 ⟨?_, ?_, ?_, ?_, ?_, r9⟩ (fun c _ _ _ _ h8 h9 => f5 c h8 h9)
      · rw [rA]; exact h3.to (f5 _ (by omega) (by omega))
      · rw [rB]; exact h4.to (f5 _ (by omega) (by omega))
      · rw [rC]; exact h5.to (f5 _ (by omega) (by omega))
      · rw [rB, rC]; exact h6.to (f5 _ (by omega) (by omega))
      · exact t8.to (by rw [f4 _ (by omega), f3 _ (by omega)])
    refine w_ite (fun e => ⟨⟨by omega, by omega⟩, hp_i (fin _ ?_ (fun c hc => by funext q; exact kup_c hc))⟩) (fun e => ⟨⟨by omega, by omega⟩, hp_i (fin _ ?_ (fun c hc => by funext q; exact kup_c hc))⟩)
    · have e : a = b := by omega
      subst e
      rw [s9 a ha30, rE]
      refine (s9.up (x := fup (mgL S g l) a (mgL S g l a + 1) a)).cg (fun p => ?_)
      by_cases ea : p = a
      · subst ea; rw [fup_eq, fup_eq, if_pos (Or.inl rfl)]
      · rw [fup_ne ea, fup_ne ea, if_neg (fun q => ea (by omega))]; rfl
    · have e : a ≠ b := by omega
      rw [s9 b hb30, rE]
      refine (s9.up (x := fup (mgL S g l) a (mgL S g l a + 1) b + 1)).cg (fun p => ?_)
      by_cases eb : p = b
      · subst eb; rw [fup_eq, fup_ne (fun q => e q.symm), if_pos (Or.inr rfl)]
      · rw [fup_ne eb]
        by_cases ea : p = a
        · subst ea; rw [fup_eq, if_pos (Or.inl rfl)]
        · rw [fup_ne ea, if_neg (by omega)]; rfl
  · refine ⟨⟨by omega, by omega⟩, ⟨by omega, by omega⟩, hp_i ⟨⟨by omega, by omega⟩, ?_⟩⟩
    rw [Int.toNat_natCast, Int.toNat_natCast]
    rw [if_neg e4] at rD rE
    have s6 : Row (kup z (t + 6) a (ior (z (t + 6) a) (ishl 1 b))) (t + 6) (fup (fun p => paL S g 2 l p ||| paL S g 3 l p) a ((paL S g 2 l a ||| paL S g 3 l a) ||| 2 ^ b)) := h6.or ha30 (or_lt (m2 a) (m3 a)) hb30
    generalize hz1 : kup z (t + 6) a (ior (z (t + 6) a) (ishl 1 b)) = z1 at *
    have f1 : ∀ c, c ≠ t + 6 → z1 c = z c := fun c hc => by rw [← hz1]; funext q; exact kup_c hc
    refine w_ite (fun e2 => ?_) (fun e2 => ?_)
    · rw [if_pos e2] at rA rB
      rw [if_neg (by omega)] at rC
      refine ⟨⟨by omega, by omega⟩, ⟨by omega, by omega⟩, hp_i ⟨⟨by omega, by omega⟩, ⟨by omega, by omega⟩, hp_i ?_⟩⟩
      have s4 := (h4.to (f1 _ (by omega))).or ha30 (m2 a) hb30
      generalize hz2 : kup z1 (t + 4) a (ior (z1 (t + 4) a) (ishl 1 b)) = z2 at *
      have f2 : ∀ c, c ≠ t + 4 → z2 c = z1 c := fun c hc => by rw [← hz2]; funext q; exact kup_c hc
      have s3 := Row.orn (x := 1) ((h3.to (f1 _ (by omega))).to (f2 _ (by omega))) hb30 (hsn b) (by decide)
      refine k _ ⟨?_, ?_, ?_, ?_, ?_, ?_⟩ (fun c c3 c4 c5 c6 c8 c9 => by rw [← f1 c c6, ← f2 c c4]; funext q; exact kup_c c3)
      · rw [rA]; exact s3
      · rw [rB]; exact s4.off (by omega)
      · rw [rC]; exact ((h5.to (f1 _ (by omega))).to (f2 _ (by omega))).off (by omega)
      · rw [rB, rC]
        refine ((s6.to (f2 _ (by omega))).off (by omega)).cg (fun p => ?_)
        by_cases ea : p = a
        · subst ea; rw [fup_eq, fup_eq, Nat.or_assoc, Nat.or_assoc, Nat.or_comm (paL S g 3 l p)]
        · rw [fup_ne ea, fup_ne ea]
      · rw [rD]; exact ((h8.to (f1 _ (by omega))).to (f2 _ (by omega))).off (by omega)
      · rw [rE]; exact ((h9.to (f1 _ (by omega))).to (f2 _ (by omega))).off (by omega)
    · have e3 : fS S τ = 3 := by omega
      rw [if_neg e2] at rB
      rw [if_neg e2, if_pos e3] at rA
      rw [if_pos e3] at rC
      refine ⟨⟨by omega, by omega⟩, ⟨by omega, by omega⟩, hp_i ⟨⟨by omega, by omega⟩, ⟨by omega, by omega⟩, hp_i ?_⟩⟩
      have s5 := (h5.to (f1 _ (by omega))).or ha30 (m3 a) hb30
      generalize hz2 : kup z1 (t + 5) a (ior (z1 (t + 5) a) (ishl 1 b)) = z2 at *
      have f2 : ∀ c, c ≠ t + 5 → z2 c = z1 c := fun c hc => by rw [← hz2]; funext q; exact kup_c hc
      have s3 := Row.orn (x := 2) ((h3.to (f1 _ (by omega))).to (f2 _ (by omega))) hb30 (hsn b) (by decide)
      refine k _ ⟨?_, ?_, ?_, ?_, ?_, ?_⟩ (fun c c3 c4 c5 c6 c8 c9 => by rw [← f1 c c6, ← f2 c c5]; funext q; exact kup_c c3)
      · rw [rA]; exact s3
      · rw [rB]; exact ((h4.to (f1 _ (by omega))).to (f2 _ (by omega))).off (by omega)
      · rw [rC]; exact s5.off (by omega)
      · rw [rB, rC]
        refine ((s6.to (f2 _ (by omega))).off (by omega)).cg (fun p => ?_)
        by_cases ea : p = a
        · subst ea; rw [fup_eq, fup_eq, Nat.or_assoc]
        · rw [fup_ne ea, fup_ne ea]
      · rw [rD]; exact ((h8.to (f1 _ (by omega))).to (f2 _ (by omega))).off (by omega)
      · rw [rE]; exact ((h9.to (f1 _ (by omega))).to (f2 _ (by omega))).off (by omega)
