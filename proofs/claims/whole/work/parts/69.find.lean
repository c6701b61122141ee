/-! the tape as a name; finding by name -/
def LN (n : Nat) (T : Nat → Int) (m : Nat) : Prop := m ≤ n ∧ (∀ i, i < m → 97 ≤ T i ∧ T i ≤ 122) ∧ (m = n ∨ ¬ (97 ≤ T m ∧ T m ≤ 122))
theorem LN_ex (T : Nat → Int) : ∀ n, ∃ m, LN n T m
  | 0 => ⟨0, Nat.le_refl _, fun i hi => absurd hi (by omega), Or.inl rfl⟩
  | n + 1 => by
    obtain ⟨m, a, b, c⟩ := LN_ex T n
    rcases c with rfl | c
    · by_cases d : 97 ≤ T m ∧ T m ≤ 122
      · refine ⟨m + 1, Nat.le_refl _, fun i hi => ?_, Or.inl rfl⟩
        by_cases e : i = m
        · subst e; exact d
        · exact b i (by omega)
      · exact ⟨m, by omega, b, Or.inr d⟩
    · exact ⟨m, by omega, b, Or.inr c⟩
theorem w_nameFault {n m : Nat} {T : Nat → Int} {z : Hp} {K : Int → Prop} (hn : z 81 1 = n) (hn2 : n ≤ 60) (hT : ∀ i, i < n → z 82 i = T i ∧ 1 ≤ T i ∧ T i ≤ 127) (h : LN n T m) (k : K (if 8 ≤ m then 7 else if m = n ∧ 1 ≤ n then -1 else (m : Int))) : cal_X5_nameFault 81 z K := by
  obtain ⟨h1, h2, h3⟩ := h
  show LQ1 _ 0
  refine LQ1_for (min m 7) (fun _ => True) 0 rfl (by omega) trivial (fun X j hj _ hX => ?_) (fun X _ => ?_)
  · have a := h2 j (by omega)
    have b := hT j (by omega)
    rw [hn]
    refine w_if2 ⟨by omega, by omega⟩ ⟨by omega, by omega⟩ (fun e => absurd e (by omega)) (fun _ => w_if ⟨by omega, by omega⟩ (fun e => absurd e (by omega)) (fun _ => ⟨⟨by omega, by rw [klT81]; omega⟩, ?_⟩))
    rw [Int.toNat_natCast, show 81 + 1 = 82 from rfl, b.1]
    exact w_if ⟨by omega, by omega⟩ (fun e => absurd e (by omega)) (fun _ => ⟨⟨by omega, by rw [klT81]; omega⟩, w_if ⟨by omega, by omega⟩ (fun _ => lt_i (hX trivial)) (fun e => absurd a.2 e)⟩)
  · rw [hn]
    refine w_if2 ⟨by omega, by omega⟩ ⟨by omega, by omega⟩ (fun e => w_if ⟨by omega, by omega⟩ (fun e2 => ?_) (fun e2 => ?_)) (fun e => w_if ⟨by omega, by omega⟩ (fun e2 => ?_) (fun e2 => ⟨⟨by omega, by rw [klT81]; omega⟩, ?_⟩))
    · rw [if_neg (by omega), if_neg (by omega), show (m : Int) = 0 by omega] at k; exact k
    · rw [if_neg (by omega), if_pos (by omega)] at k; exact k
    · have e7 : min m 7 = 7 := by omega
      rw [e7]
      by_cases c : 8 ≤ m
      · rw [if_pos c] at k; exact k
      · rw [if_neg c, if_neg (by omega), show (m : Int) = 7 by omega] at k; exact k
    · have em : min m 7 = m := by omega
      rw [em] at e e2 ⊢
      have b := hT m (by omega)
      have c := h3.resolve_left (by omega)
      rw [if_neg (by omega), if_neg (by omega)] at k
      rw [Int.toNat_natCast, show 81 + 1 = 82 from rfl, b.1]
      exact w_if ⟨by omega, by omega⟩ (fun _ => k) (fun e3 => ⟨⟨by omega, by rw [klT81]; omega⟩, w_if ⟨by omega, by omega⟩ (fun e4 => absurd ⟨by omega, e4⟩ c) (fun _ => k)⟩)
theorem w_lettersOnTape {n m : Nat} {T : Nat → Int} {z : Hp} {K : Int → Prop} (hn : z 0 6 = n) (hn2 : n ≤ 60) (hT : ∀ i, i < n → z 3 i = T i ∧ 1 ≤ T i ∧ T i ≤ 127) (h : LN n T m) (k : K m) : cal_X10_lettersOnTape z K := by
  obtain ⟨h1, h2, h3⟩ := h
  show LQ1 _ 0
  refine LQ1_for m (fun _ => True) 0 rfl (by omega) trivial (fun X j hj _ hX => ?_) (fun X _ => ?_)
  · have a := h2 j hj
    have b := hT j (by omega)
    rw [hn]
    refine w_if2 ⟨by omega, by omega⟩ ⟨by omega, by omega⟩ (fun e => absurd e (by omega)) (fun _ => ⟨⟨by omega, by omega⟩, ?_⟩)
    rw [Int.toNat_natCast, b.1]
    exact w_X10_isIn ⟨by omega, by omega⟩ ⟨by decide, by decide⟩ ⟨by decide, by decide⟩ (fun _ => w_t rg1 (lt_i (hX trivial))) (fun r => absurd a r)
  · rw [hn]
    refine w_if2 ⟨by omega, by omega⟩ ⟨by omega, by omega⟩ (fun _ => k) (fun e => ⟨⟨by omega, by omega⟩, ?_⟩)
    have b := hT m (by omega)
    rw [Int.toNat_natCast, b.1]
    exact w_X10_isIn ⟨by omega, by omega⟩ ⟨by decide, by decide⟩ ⟨by decide, by decide⟩ (fun r => absurd r (h3.resolve_left (by omega))) (fun _ => w_f rg0 k)
def Mt (S T : Nat → Int) (n p : Nat) : Prop := NLen S p n ∧ ∀ i, i < n → pL S p i = T i
noncomputable def cM (P : Nat → Prop) : Nat → Nat
  | 0 => 0
  | k + 1 => cM P k + @ite Nat (P k) (Classical.propDecidable (P k)) 1 0
theorem cM_le (P : Nat → Prop) : ∀ k, cM P k ≤ k
  | 0 => Nat.le_refl _
  | k + 1 => by have := cM_le P k; unfold cM; split <;> omega
theorem w_isNamed {n p : Nat} {S T : Nat → Int} {z : Hp} {K : Int → Prop} (hp : p < 30) (hP : PeC z 1 S p) (hn : z 81 1 = n) (hn2 : n ≤ 60) (hT : ∀ i, i < n → z 82 i = T i ∧ 1 ≤ T i ∧ T i ≤ 127) (h1 : Mt S T n p → K 1) (h0 : ¬ Mt S T n p → K 0) : cal_X0_isNamed 1 p 81 z K := by
  obtain ⟨l, a1, a2, a3⟩ := hP.len
  have a1 : z 33 p = l := a1
  have l7 := a2.2.1
  have ip : inb (p : Int) 30 := ⟨by omega, by omega⟩
  unfold cal_X0_isNamed
  rw [Int.toNat_natCast, show 1 + 32 = 33 from rfl, a1, hn]
  refine ⟨ip, w_if2 ⟨by omega, by omega⟩ ⟨by omega, by omega⟩ (fun e => ?_) (fun e => h0 (fun q => e (by rw [q.1.uq a2])))⟩
  have e : l = n := by omega
  subst e
  refine lt_i (LQ1_for l (fun j => ∀ i, i < j → pL S p i = T i) 0 rfl (by omega) (fun i hi => absurd hi (by omega)) (fun X j hj hI hX => ?_) (fun X hI => ?_))
  · refine ⟨ip, w_if2 ⟨by omega, by omega⟩ ⟨by omega, by omega⟩ (fun e => absurd e (by omega)) (fun _ => ⟨ip, ⟨by omega, by omega⟩, w_at (t := 81) (n := l) ⟨by omega, by omega⟩ hn (by rw [klT81]; omega) (by rw [klT81]; omega) (fun i hi hin => ?_) (fun q => absurd q (by omega))⟩)⟩
    have : i = j := by omega
    subst this
    have bt := hT i hj
    have bl := a2.2.2.1 i hj
    have e3 : z (1 + 1 + 1 + p) i = pL S p i := a3 i hj
    rw [Int.toNat_natCast, e3, show 81 + 1 = 82 from rfl, bt.1]
    refine w_if2 ⟨by omega, by omega⟩ ⟨by omega, by omega⟩ (fun e => lt_i (hX (fun i' hi' => ?_))) (fun e => h0 (fun q => e (q.2 i hj)))
    by_cases g : i' = i
    · subst g; exact e
    · exact hI i' (by omega)
  · exact ⟨ip, w_if2 ⟨by omega, by omega⟩ ⟨by omega, by omega⟩ (fun _ => h1 ⟨a2, hI⟩) (fun e => absurd e (by omega))⟩
theorem inv_op10 : op10 Inv := by
  intro a1 zC zM ha h
  have h1 := h.1
  have hn := h1.n
  have b0 := h.2.1.1
  have bp := h.2.1.2.2.2.2.1
  obtain ⟨r0, r1, r2, r3⟩ := rgS h1
  obtain ⟨n, n1, n2, n3, n4⟩ := h.2.2.2.1
  have ref : ∀ (K : Int → Hp → Prop), (∀ v, IsFst (sN (zM 1)) (fun p => Mt (zM 1) (zM 3) n p ∧ (cM (Mt (zM 1) (zM 3) n) p : Int) = a1) v → K v (kup zM 0 6 0)) → cal_X10_find a1 zM K := fun K hK => by
    refine lt_i (hp_i (lt_i (lt_i ?_)))
    rw [n2]
    have e1 : kup zM 0 6 0 1 = zM 1 := by funext i; exact kup_c (by decide)
    have e3 : kup zM 0 6 0 3 = zM 3 := by funext i; exact kup_c (by decide)
    generalize kup zM 0 6 0 = z2 at *
    refine LQ2_for (sN (zM 1)) (fun j a => a = ((cM (Mt (zM 1) (zM 3) n) j : Nat) : Int) ∧ ∀ p, p < j → ¬ (Mt (zM 1) (zM 3) n p ∧ (cM (Mt (zM 1) (zM 3) n) p : Int) = a1)) 0 rfl (by omega) ⟨rfl, fun p hp => absurd hp (by omega)⟩ (fun X j a hj ha2 hX => ?_) (fun X a ha2 => ?_)
    · obtain ⟨i1, i2⟩ := ha2
      have cl := cM_le (Mt (zM 1) (zM 3) n) j
      obtain ⟨l, hl⟩ := nlen_of h1 hj
      have l7 := hl.2.1
      rw [e1]
      refine w_if2 ⟨by omega, by omega⟩ r0 (fun e => absurd e (by omega)) (fun _ => w_X10_lengthOf e1 (by omega) hl ?_)
      have fin : ∀ v : Int, ((v = 1 ∧ Mt (zM 1) (zM 3) n j) ∨ (v = 0 ∧ ¬ Mt (zM 1) (zM 3) n j)) → jn (fun J17 : Prop => rg v ∧ if v = 0 then (J17) else (rg a ∧ rg a1 ∧ if a = a1 then (K (j : Int) z2) else (J17))) (jn (fun J19 : Int → Prop => rg v ∧ if v = 0 then (lt1 (a + 0) (fun v21 => J19 v21)) else (lt1 (a + 1) (fun v22 => J19 v22))) (fun v18 => lt1 ((j : Int) + 1) (fun v20 => X v18 v20))) := fun v hv => by
        have hX' : ∀ a', a' = ((cM (Mt (zM 1) (zM 3) n) (j + 1) : Nat) : Int) → ¬ (Mt (zM 1) (zM 3) n j ∧ (cM (Mt (zM 1) (zM 3) n) j : Int) = a1) → X a' ((j : Int) + 1) := fun a' e1 e2 => hX a' ⟨e1, fun p hp => by
          by_cases g : p = j
          · subst g; exact e2
          · exact i2 p (by omega)⟩
        rw [cM] at hX'
        rcases hv with ⟨rfl, hv⟩ | ⟨rfl, hv⟩
        · rw [if_pos hv] at hX'
          refine jn_i (fun (J : Prop) => a ≠ a1 → J) (fun e => jn_i (fun J => J (a + 1)) (lt_i (hX' _ (by omega) (fun q => e (by omega)))) (fun J hJ => w_t rg1 (lt_i hJ))) (fun J hJ => w_t rg1 (w_if2 ⟨by omega, by omega⟩ ha (fun e => hK _ (Or.inl ⟨j, hj, rfl, ⟨hv, by omega⟩, i2⟩)) (fun e => hJ e)))
        · rw [if_neg hv] at hX'
          exact jn_i (fun (J : Prop) => J) (jn_i (fun J => J a) (lt_i (hX' _ (by omega) (fun q => hv q.1))) (fun J hJ => w_f rg0 (lt_i (by rw [Int.add_zero]; exact hJ)))) (fun J hJ => w_f rg0 hJ)
      refine jn_i (fun J => ∀ v : Int, ((v = 1 ∧ l = n) ∨ (v = 0 ∧ l ≠ n)) → J v) (fun v9 hv9 => lt_i ?_) (fun J hJ => w_if2 ⟨by omega, by omega⟩ ⟨by omega, by omega⟩ (fun e => lt_i (hJ 1 (Or.inl ⟨rfl, by omega⟩))) (fun e => lt_i (hJ 0 (Or.inr ⟨rfl, by omega⟩))))
      refine LQ2_for n (fun i v => (v = 1 ∧ l = n ∧ ∀ i', i' < i → pL (zM 1) j i' = zM 3 i') ∨ (v = 0 ∧ ¬ Mt (zM 1) (zM 3) n j)) 0 rfl (by omega) (hv9.elim (fun q => Or.inl ⟨q.1, q.2, fun i hi => absurd hi (by omega)⟩) (fun q => Or.inr ⟨q.1, fun r => q.2 (by rw [hl.uq r.1])⟩)) (fun Y i v hi hv hY => ?_) (fun Y v hv => ?_)
      · refine jn_i (fun J => ∀ v : Int, ((v = 1 ∧ Mt (zM 1) (zM 3) n j) ∨ (v = 0 ∧ ¬ Mt (zM 1) (zM 3) n j)) → J v) fin (fun J hJ => w_if2 ⟨by omega, by omega⟩ ⟨by omega, by omega⟩ (fun e => absurd e (by omega)) (fun _ => ?_))
        rcases hv with ⟨rfl, e, hp⟩ | ⟨rfl, hv⟩
        · refine w_t rg1 (w_letterOf e1 (by omega) (by omega) ⟨⟨by omega, by omega⟩, ?_⟩)
          have bl := hl.2.2.1 i (by omega)
          have bt := n4 i hi
          rw [Int.toNat_natCast, e3]
          refine jn_i (fun J => ∀ v : Int, ((v = 1 ∧ pL (zM 1) j i = zM 3 i) ∨ (v = 0 ∧ pL (zM 1) j i ≠ zM 3 i)) → J v) (fun v hv => lt_i (hY v ?_)) (fun J hJ => w_if2 ⟨by omega, by omega⟩ ⟨by omega, by omega⟩ (fun e => lt_i (hJ 1 (Or.inl ⟨rfl, e⟩))) (fun e => lt_i (hJ 0 (Or.inr ⟨rfl, e⟩))))
          rcases hv with ⟨rfl, q⟩ | ⟨rfl, q⟩
          · refine Or.inl ⟨rfl, e, fun i' hi' => ?_⟩
            by_cases g : i' = i
            · subst g; exact q
            · exact hp i' (by omega)
          · exact Or.inr ⟨rfl, fun r => q (r.2 i hi)⟩
        · exact w_f rg0 (hJ 0 (Or.inr ⟨rfl, hv⟩))
      · refine jn_i (fun J => ∀ v : Int, ((v = 1 ∧ Mt (zM 1) (zM 3) n j) ∨ (v = 0 ∧ ¬ Mt (zM 1) (zM 3) n j)) → J v) fin (fun J hJ => w_if2 ⟨by omega, by omega⟩ ⟨by omega, by omega⟩ (fun _ => hJ v (hv.elim (fun q => Or.inl ⟨q.1, by rw [← q.2.1]; exact hl, q.2.2⟩) (fun q => Or.inr q))) (fun e => absurd e (by omega)))
    · rw [e1]
      exact w_if2 ⟨by omega, by omega⟩ r0 (fun _ => hK _ (Or.inr ⟨rfl, ha2.2⟩)) (fun e => absurd e (by omega))
  have fin : ∀ v, IsFst (sN (zM 1)) (fun p => Mt (zM 1) (zM 3) n p ∧ (cM (Mt (zM 1) (zM 3) n) p : Int) = a1) v → cal_X5_wipe 81 zC (fun z4 => cal_X10_find a1 zM (fun r' zM' => v = r' ∧ Inv z4 zM')) := fun v hv => hp_i (ref _ (fun w hw => ⟨hv.eq hw, h.wipe⟩))
  unfold cal_X9_find
  unfold cal_X0_findNamed
  refine lt_i (lt_i (LQ2_for (sN (zM 1)) (fun j a => a = ((cM (Mt (zM 1) (zM 3) n) j : Nat) : Int) ∧ ∀ p, p < j → ¬ (Mt (zM 1) (zM 3) n p ∧ (cM (Mt (zM 1) (zM 3) n) p : Int) = a1)) 0 rfl (by omega) ⟨rfl, fun p hp => absurd hp (by omega)⟩ (fun X j a hj ha2 hX => ?_) (fun X a ha2 => ?_)))
  · obtain ⟨i1, i2⟩ := ha2
    have cl := cM_le (Mt (zM 1) (zM 3) n) j
    rw [b0]
    have hX' : ∀ a', a' = ((cM (Mt (zM 1) (zM 3) n) (j + 1) : Nat) : Int) → ¬ (Mt (zM 1) (zM 3) n j ∧ (cM (Mt (zM 1) (zM 3) n) j : Int) = a1) → X a' ((j : Int) + 1) := fun a' e1 e2 => hX a' ⟨e1, fun p hp => by
      by_cases g : p = j
      · subst g; exact e2
      · exact i2 p (by omega)⟩
    rw [cM] at hX'
    refine w_if2 ⟨by omega, by omega⟩ r0 (fun e => absurd e (by omega)) (fun _ => w_isNamed (by omega) (bp j hj) n3 n1 n4 (fun q => ?_) (fun q => ?_))
    · rw [if_pos q] at hX'
      refine jn_i (fun J => a ≠ a1 → J (a + 1)) (fun e => lt_i (hX' _ (by omega) (fun q => e (by omega)))) (fun J2 hJ2 => w_t rg1 (w_if2 ⟨by omega, by omega⟩ ha (fun e => lt_i (fin _ (Or.inl ⟨j, hj, rfl, ⟨q, by omega⟩, i2⟩))) (fun e => lt_i (hJ2 e))))
    · rw [if_neg q] at hX'
      exact jn_i (fun J => J a) (lt_i (hX' _ (by omega) (fun r => q r.1))) (fun J2 hJ2 => w_f rg0 hJ2)
  · rw [b0]
    exact w_if2 ⟨by omega, by omega⟩ r0 (fun _ => lt_i (fin _ (Or.inr ⟨rfl, ha2.2⟩))) (fun e => absurd e (by omega))
