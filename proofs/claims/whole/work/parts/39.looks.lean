/-! the first clashes -/
def LkS (c : Int) (P : Nat → Prop) (Q : Prop) (j : Nat) (cl wh : Int) (old : Int → Int → Prop) : Prop := (cl = 0 ∧ wh = -5 ∧ Q ∧ ∀ q, q < j → ¬ P q) ∨ (cl = c ∧ Q ∧ ∃ p : Nat, p < j ∧ wh = p ∧ P p ∧ ∀ q, q < p → ¬ P q) ∨ (cl ≠ 0 ∧ old cl wh)
/-- the clash of the first three sorts: n people, P1 P2 P3 what each sort asks -/
def LkIs (n : Nat) (P1 P2 P3 : Nat → Prop) (cl wh : Int) : Prop :=
  LkS 3 P3 ((∀ q, q < n → ¬ P1 q) ∧ ∀ q, q < n → ¬ P2 q) n cl wh (fun cl wh => LkS 2 P2 (∀ q, q < n → ¬ P1 q) n cl wh (fun cl wh => LkS 1 P1 True n cl wh (fun _ _ => False)))
theorem LkS.cl0 {c : Int} {P : Nat → Prop} {Q : Prop} {j : Nat} {wh : Int} {old : Int → Int → Prop} (hc : c ≠ 0) (h : LkS c P Q j 0 wh old) : wh = -5 ∧ Q ∧ ∀ q, q < j → ¬ P q := by
  rcases h with ⟨_, h1, h2, h3⟩ | ⟨h1, _⟩ | ⟨h1, _⟩
  · exact ⟨h1, h2, h3⟩
  · exact absurd h1.symm hc
  · exact absurd rfl h1
/-- one more place looked at: nothing there, or told there -/
theorem LkS.no {c : Int} {P : Nat → Prop} {Q : Prop} {j : Nat} {cl wh : Int} {old : Int → Int → Prop} (h : LkS c P Q j cl wh old) (hp : ¬ P j) : LkS c P Q (j + 1) cl wh old := by
  rcases h with ⟨h0, h1, h2, h3⟩ | ⟨h0, h1, p, h2, h3⟩ | h
  · refine Or.inl ⟨h0, h1, h2, fun q hq => ?_⟩
    by_cases e : q = j
    · subst e; exact hp
    · exact h3 q (by omega)
  · exact Or.inr (Or.inl ⟨h0, h1, p, by omega, h3⟩)
  · exact Or.inr (Or.inr h)
theorem LkS.stay {c : Int} {P : Nat → Prop} {Q : Prop} {j : Nat} {cl wh : Int} {old : Int → Int → Prop} (h : LkS c P Q j cl wh old) (hn : cl ≠ 0) : LkS c P Q (j + 1) cl wh old := by
  rcases h with ⟨h0, h1, h2, h3⟩ | ⟨h0, h1, p, h2, h3⟩ | h
  · exact absurd h0 hn
  · exact Or.inr (Or.inl ⟨h0, h1, p, by omega, h3⟩)
  · exact Or.inr (Or.inr h)
theorem LkS.yes {c : Int} {P : Nat → Prop} {Q : Prop} {j : Nat} {wh : Int} {old : Int → Int → Prop} (hc : c ≠ 0) (h : LkS c P Q j 0 wh old) (hp : P j) : LkS c P Q (j + 1) c j old := by
  have h' := h.cl0 hc
  exact Or.inr (Or.inl ⟨rfl, h'.2.1, j, by omega, rfl, hp, h'.2.2⟩)
/-- what looking leaves alone -/
def LFr (z z' : Hp) : Prop := (∀ j, j ≠ 17 → j ≠ 18 → z' 0 j = z 0 j) ∧ ∀ c, c ≠ 0 → z' c = z c
theorem LFr.tr {z z' z'' : Hp} (h : LFr z z') (h' : LFr z' z'') : LFr z z'' := ⟨fun j a b => by rw [h'.1 j a b, h.1 j a b], fun c h1 => by rw [h'.2 c h1, h.2 c h1]⟩
theorem w_X10_clashes {z : Hp} {K : Hp → Prop} {c : Int} {j : Nat} {P : Nat → Prop} {Q : Prop} {old : Int → Int → Prop} (hc : c ≠ 0) (hr : rg (z 0 17)) (h : LkS c P Q j (z 0 17) (z 0 18) old) (hp : P j) (k : ∀ z' : Hp, LkS c P Q (j + 1) (z' 0 17) (z' 0 18) old → LFr z z' → K z') : cal_X10_clashes c j z K := by
  refine w_if hr (fun e => hp_i (hp_i (k _ ?_ ⟨fun i a b => ?_, fun c hc => ?_⟩))) (fun e => k z (h.stay e) ⟨fun _ _ _ => rfl, fun _ _ => rfl⟩)
  · rw [kup_eq, kup_n (by decide), kup_eq]
    rw [e] at h
    exact h.yes hc hp
  · rw [kup_n (fun q => b q.2), kup_n (fun q => a q.2)]
  · funext q; rw [kup_c hc, kup_c hc]
