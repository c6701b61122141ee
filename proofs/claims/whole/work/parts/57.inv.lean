/-! what ends rest on; rounds end -/
def ROk (s : RSt) : Prop := ∀ e, e < 240 → (rR s e = -5 ∧ rF s e = -5) ∨ (0 ≤ rR s e ∧ rR s e < 160 ∧ (rF s e = -5 ∨ (0 ≤ rF s e ∧ rF s e < 240)))
theorem nar_rok {ru : Int} {e : Nat} {v b : Int} {s : RSt} (hr : 0 ≤ ru ∧ ru < 160) (hb : b = -5 ∨ (0 ≤ b ∧ b < 240)) (h : ROk s) : ROk (nar ru e v b s) := by
  unfold nar
  split
  · exact h
  · split
    · exact h
    · intro q hq
      show (fup (rR s) e ru q = -5 ∧ fup (rF s) e b q = -5) ∨ (0 ≤ fup (rR s) e ru q ∧ fup (rR s) e ru q < 160 ∧ (fup (rF s) e b q = -5 ∨ (0 ≤ fup (rF s) e b q ∧ fup (rF s) e b q < 240)))
      by_cases g : q = e
      · subst g; rw [fup_eq, fup_eq]; exact Or.inr ⟨hr.1, hr.2, hb⟩
      · rw [fup_ne g, fup_ne g]; exact h q hq
theorem apl_rok {s : RSt} {r : Rl} (hr : RlOk r) (hru : 0 ≤ r.2.2.2.2 ∧ r.2.2.2.2 < 160) (h : ROk s) : ROk (apl s r) := by
  obtain ⟨x, y, c, d, ru⟩ := r
  obtain ⟨h1, h2, h3, h4⟩ := hr
  dsimp only at h1 h2 h3 h4 hru
  unfold apl
  split
  · exact nar_rok hru (Or.inl rfl) (nar_rok hru (Or.inl rfl) h)
  · have h2' : y.toNat < 120 := by omega
    exact nar_rok hru (Or.inr (by dsimp only; omega)) (nar_rok hru (Or.inr (by dsimp only; omega)) (nar_rok hru (Or.inr (by dsimp only; omega)) (nar_rok hru (Or.inr (by dsimp only; omega)) h)))
theorem runR_inv {I : RSt → Prop} {l : List Rl} (hs : ∀ s, I s → I (rnd l s)) : ∀ (F k : Nat) (s : RSt), I s → I (runR l F k s).2
  | 0, _, _, h => h
  | F + 1, k, s, h => by
    rw [runR]
    split
    · exact hs s h
    · exact runR_inv hs F (k + 1) _ (hs s h)
theorem runR_le {l : List Rl} : ∀ (F k : Nat) (s : RSt), (runR l F k s).1 ≤ k + F
  | 0, _, _ => Nat.le_refl _
  | F + 1, k, s => by
    rw [runR]
    split
    · show k + 1 ≤ _; omega
    · have := runR_le (l := l) F (k + 1) (rnd l s); omega
theorem rSt0_rok : ROk rSt0 := fun e _ => Or.inl ⟨rfl, rfl⟩
theorem rSt0_wh : WhOk rSt0 := fun h => absurd rfl h
theorem run_stp {l : List Rl} {s : RSt} {F : Nat} (hok : ∀ r ∈ l, RlOk r) (hb : RB s) (hw : wid s < F) : stp (runR l F 0 s).2 := by
  rcases runR_spec l F 0 s with ⟨n, _, h2, _, h4⟩ | ⟨h1, h2⟩
  · rw [h4]; exact h2
  · exfalso
    have gen : ∀ n, n ≤ F → RB (Stt l s n) ∧ wid (Stt l s n) + n ≤ wid s := fun n => by
      induction n with
      | zero => intro _; refine ⟨hb, ?_⟩; rw [Nat.add_zero]; exact Nat.le_refl (wid s)
      | succ n ih =>
        intro hn
        obtain ⟨i1, i2⟩ := ih (by omega)
        have hns := h1 n (by omega)
        have c0 : rCl (Stt l s (n + 1)) = 0 := Decidable.byContradiction fun q => hns (Or.inl q)
        have c1 : rCh (Stt l s (n + 1)) ≠ 0 := fun q => hns (Or.inr q)
        have := rnd_dec i1 hok c0 c1
        exact ⟨rnd_RB i1 hok, by show wid (rnd l (Stt l s n)) + (n + 1) ≤ _; omega⟩
    have := (gen F (Nat.le_refl _)).2
    omega
theorem rls_ru {S : Nat → Int} {g : Nat → Nat} {t : Nat} (ht : t < 61) : ∀ r ∈ rls S g t, r.2.2.2.2 < 160 := by
  unfold rls
  simp only
  intro r hr
  split at hr
  · simp only [List.mem_singleton] at hr; subst hr; dsimp only; omega
  split at hr
  · simp only [List.mem_singleton] at hr; subst hr; dsimp only; omega
  split at hr
  · simp only [List.mem_cons, List.not_mem_nil, or_false] at hr; rcases hr with rfl | rfl <;> (dsimp only; omega)
  split at hr
  · simp only [List.mem_cons, List.not_mem_nil, or_false] at hr; rcases hr with rfl | rfl <;> (dsimp only; omega)
  split at hr
  · simp only [List.mem_cons, List.not_mem_nil, or_false] at hr; rcases hr with rfl | rfl | rfl | rfl | rfl <;> (dsimp only; omega)
  split at hr
  · simp only [List.mem_cons, List.not_mem_nil, or_false] at hr; rcases hr with rfl | rfl <;> (dsimp only; omega)
  split at hr
  · simp only [List.mem_singleton] at hr; subst hr; dsimp only; omega
  · simp at hr
theorem lifeR_ru {g : Nat → Nat} : ∀ k, k ≤ 30 → ∀ r ∈ lifeR g k, r.2.2.2.2 < 160
  | 0, _, r, hr => by simp [lifeR] at hr
  | k + 1, hk, r, hr => by
    rw [lifeR, List.mem_append] at hr
    rcases hr with hr | hr
    · exact lifeR_ru k (by omega) r hr
    · by_cases c : g k = k
      · rw [if_pos c, List.mem_singleton] at hr
        subst hr
        dsimp only; omega
      · rw [if_neg c] at hr; simp at hr
theorem stR_ru {S : Nat → Int} {g : Nat → Nat} : ∀ l : List Nat, (∀ t ∈ l, t < 61) → ∀ r ∈ stR S g l, r.2.2.2.2 < 160
  | [], _, r, hr => by simp [stR] at hr
  | t :: l, h, r, hr => by
    rw [stR, List.mem_append] at hr
    exact hr.elim (rls_ru (h t (List.mem_cons_self ..)) r) (stR_ru l (fun x hx => h x (List.mem_cons_of_mem _ hx)) r)
theorem allR_ru {S : Nat → Int} {g : Nat → Nat} {l : List Nat} (hn : sN S ≤ 30) (h : ∀ t ∈ l, t < 61) : ∀ r ∈ allR S g l, r.2.2.2.2 < 160 := fun r hr => by
  unfold allR at hr
  rw [List.mem_append] at hr
  exact hr.elim (lifeR_ru _ hn r) (stR_ru l h r)
theorem fold_rok {l : List Rl} (hl : ∀ r ∈ l, RlOk r ∧ 0 ≤ r.2.2.2.2 ∧ r.2.2.2.2 < 160) {s : RSt} (h : ROk s) : ROk (rnd l s) :=
  foldl_inv (I := ROk) l (quiet s) h (fun _ r hr h => apl_rok (hl r hr).1 (hl r hr).2 h)
/-- all of a run -/
theorem run_all {l : List Rl} (hl : ∀ r ∈ l, RlOk r ∧ 0 ≤ r.2.2.2.2 ∧ r.2.2.2.2 < 160) (F : Nat) : RB (runR l F 0 rSt0).2 ∧ WhOk (runR l F 0 rSt0).2 ∧ ROk (runR l F 0 rSt0).2 :=
  runR_inv (I := fun s => RB s ∧ WhOk s ∧ ROk s) (fun s h => ⟨rnd_RB h.1 (fun r hr => (hl r hr).1), foldl_wh l (quiet s) h.2.1 (fun r hr => (hl r hr).1), fold_rok hl h.2.2⟩) F 0 rSt0 ⟨rSt0_RB, rSt0_wh, rSt0_rok⟩
/-! the two side by side -/
def PeC (z : Hp) (r : Nat) (S : Nat → Int) (p : Nat) : Prop := z (r + 33) p = pX S p ∧ ∃ l : Nat, z (r + 32) p = l ∧ 1 ≤ l ∧ l ≤ 7 ∧ (∀ i, i < l → z (r + 2 + p) i = pL S p i ∧ 97 ≤ pL S p i ∧ pL S p i ≤ 122) ∧ (∀ i, l ≤ i → i < 7 → pL S p i = 0)
def Bk (z : Hp) (r : Nat) (S : Nat → Int) : Prop := z r 0 = S 0 ∧ z r 1 = S 1 ∧ BkSt z r S (sT S) ∧ (∀ t, t < sT S → z (r + 39) t = fV S t) ∧ (∀ p, p < sN S → PeC z r S p) ∧ ∀ p, p < 30 → ∀ i, i < 7 → by8 (z (r + 2 + p) i)
theorem Bk.to {z z' : Hp} {r : Nat} {S : Nat → Int} (h : Bk z r S) (hn : sN S ≤ 30) (e : ∀ c, r ≤ c → c ≤ r + 39 → z' c = z c) : Bk z' r S := by
  obtain ⟨h1, h2, h3, h4, h5, h6⟩ := h
  refine ⟨by rw [e r (by omega) (by omega)]; exact h1, by rw [e r (by omega) (by omega)]; exact h2, fun t ht => ?_, fun t ht => by rw [e (r + 39) (by omega) (by omega)]; exact h4 t ht, fun p hp => ?_, fun p hp => by rw [e (r + 2 + p) (by omega) (by omega)]; exact h6 p hp⟩
  · rw [e (r + 34) (by omega) (by omega), e (r + 35) (by omega) (by omega), e (r + 36) (by omega) (by omega), e (r + 37) (by omega) (by omega), e (r + 38) (by omega) (by omega)]; exact h3 t ht
  · obtain ⟨a, l, b, c, d, f, g⟩ := h5 p hp
    refine ⟨by rw [e (r + 33) (by omega) (by omega)]; exact a, l, by rw [e (r + 32) (by omega) (by omega)]; exact b, c, d, fun i hi => ?_, g⟩
    rw [e (r + 2 + p) (by omega) (by omega)]; exact f i hi
def IKp (zC zM : Hp) : Prop := (zC 0 2 = 0 ∧ zM 0 2 = 0) ∨ (zC 0 2 = 1 ∧ zM 0 2 = 1 ∧ SOk 60 (zM 2) ∧ Bk zC 41 (zM 2))
def ITp (zC zM : Hp) : Prop := ∃ n : Nat, n ≤ 60 ∧ zM 0 6 = n ∧ zC 81 1 = n ∧ ∀ i, i < n → zC 82 i = zM 3 i ∧ 1 ≤ zM 3 i ∧ zM 3 i ≤ 127
def IPp (zC zM : Hp) : Prop := ∃ n : Nat, n ≤ 400 ∧ zM 0 7 = n ∧ zC 83 1 = n ∧ ∀ i, i < n → zC 84 i = zM 4 i
def ILs (zC zM : Hp) : Prop := ∀ l, l < 4 → zC 142 l = zM 18 l ∧ -1 ≤ zM 18 l ∧ zM 18 l ≤ 40 ∧ ∀ i : Nat, (i : Int) < zM 18 l → zC (138 + l) i = zM 19 (40 * l + i) ∧ rg (zM 19 (40 * l + i))
/-- the clash of what the statements l of S say -/
def CR (S : Nat → Int) (l : List Nat) (c : Int) : Prop := ∃ (ab : Nat → Nat) (cl wh : Int), IsAb (sN S) (fun p => paL S (gL S l) 2 l p ||| paL S (gL S l) 3 l p) ab ∧ LkIs' (sN S) (P1f S l) (P2f S l) (P3f ab) cl wh ∧ ((cl ≠ 0 ∧ c = cl) ∨ (cl = 0 ∧ c = rCl (runR (allR S (gL S l) l) 1000000 0 rSt0).2))
def Culp (z : Hp) (S : Nat → Int) : Prop := ∃ (p : Nat → Bool) (cs : List Nat), (∀ t ∈ lv S, p t = true ↔ CR S (selK S t (sT S)) 0) ∧ cs = (lv S).filter p ∧ z 0 10 = (cs.length : Int) ∧ Said z 132 cs
def Ordd (z : Hp) (S : Nat → Int) : Prop := ∃ L, OrdK (z 100) (fun p => gOf S p = p) (sN S) L ∧ Hld z 108 L
def ISt (z : Hp) (S : Nat → Int) : Prop := (z 0 8 = 0 ∧ z 0 11 = 0) ∨ (z 0 8 = 1 ∧ ClsW z 86 S (lv S) 1000000 ∧ Ordd z S ∧ (z 0 11 = 0 ∨ (z 0 11 = 1 ∧ Culp z S)))
def Inv (zC zM : Hp) : Prop := SOk 60 (zM 1) ∧ Bk zC 1 (zM 1) ∧ IKp zC zM ∧ ITp zC zM ∧ IPp zC zM ∧ ILs zC zM ∧ RefW zM (zM 1) ∧ ISt zC (zM 1)
theorem ClsW.to {z z' : Hp} {t F : Nat} {S : Nat → Int} {l : List Nat} (h : ClsW z t S l F) (e : ∀ c, t ≤ c → c ≤ t + 21 → z' c = z c) : ClsW z' t S l F := by
  obtain ⟨h1, h2, ab, cl, wh, h3, h4, h5, h6⟩ := h
  have cr : ∀ s : RSt, ClsR z (t + 13) s → ClsR z' (t + 13) s := fun s ⟨a, b, c⟩ => ⟨fun x hx => by rw [e (t + 13 + 1) (by omega) (by omega), e (t + 13 + 2) (by omega) (by omega), e (t + 13 + 3) (by omega) (by omega)]; exact a x hx, by rw [e (t + 13) (by omega) (by omega)]; exact b, by rw [e (t + 13) (by omega) (by omega)]; exact c⟩
  refine ⟨by rw [e t (by omega) (by omega)]; exact h1, fun j hj => by rw [e (t + 1) (by omega) (by omega)]; exact h2 j hj, ab, cl, wh, h3.to (fun c a b => e c (by omega) (by omega)), h4, by rw [e t (by omega) (by omega)]; exact h5, ?_⟩
  rw [e t (by omega) (by omega), e (t + 13) (by omega) (by omega)]
  rcases h6 with ⟨a, b, ⟨v, c⟩, d⟩ | ⟨a, b, c, d⟩
  · exact Or.inl ⟨a, b, ⟨v, cr _ c⟩, d⟩
  · exact Or.inr ⟨a, cr _ b, c, d⟩
