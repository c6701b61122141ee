/-! rounds -/
def lifeR (g : Nat → Nat) : Nat → List Rl
  | 0 => []
  | k + 1 => lifeR g k ++ (if g k = k then [(2 * k + 1, ((2 * k : Nat) : Int), 0, 110, 100 + (k : Int))] else [])
def stR (S : Nat → Int) (g : Nat → Nat) : List Nat → List Rl
  | [] => []
  | t :: l => rls S g t ++ stR S g l
def allR (S : Nat → Int) (g : Nat → Nat) (l : List Nat) : List Rl := lifeR g (sN S) ++ stR S g l
theorem stR_app (S : Nat → Int) (g : Nat → Nat) : ∀ l l' : List Nat, stR S g (l ++ l') = stR S g l ++ stR S g l'
  | [], _ => rfl
  | t :: l, l' => by rw [List.cons_append, stR, stR, stR_app S g l l', List.append_assoc]
/-- a round's start: nothing has changed -/
def quiet (s : RSt) : RSt := (rE s, rR s, rF s, rCl s, rWh s, 0)
def rnd (l : List Rl) (s : RSt) : RSt := l.foldl apl (quiet s)
def rDone (s : RSt) : Prop := rCl s ≠ 0 ∨ rCh s = 0
/-- so many rounds at most: how many, and what is then -/
def runR (l : List Rl) : Nat → Nat → RSt → Nat × RSt
  | 0, k, s => (k, s)
  | f + 1, k, s => if rCl (rnd l s) ≠ 0 ∨ rCh (rnd l s) = 0 then (k + 1, rnd l s) else runR l f (k + 1) (rnd l s)
theorem quiet_RB {s : RSt} (h : RB s) : RB (quiet s) := h
theorem rnd_RB {l : List Rl} {s : RSt} (h : RB s) (hl : ∀ r ∈ l, RlOk r) : RB (rnd l s) := foldl_RB l _ (quiet_RB h) hl
theorem lifeR_ok {g : Nat → Nat} : ∀ k, k ≤ 30 → ∀ r ∈ lifeR g k, RlOk r
  | 0, _, r, hr => by simp [lifeR] at hr
  | k + 1, hk, r, hr => by
    rw [lifeR, List.mem_append] at hr
    rcases hr with hr | hr
    · exact lifeR_ok k (by omega) r hr
    · by_cases c : g k = k
      · rw [if_pos c, List.mem_singleton] at hr
        subst hr
        refine ⟨?_, ?_, ?_, ?_⟩ <;> dsimp only <;> omega
      · rw [if_neg c] at hr; simp at hr
theorem stR_ok {n : Nat} {S : Nat → Int} {g : Nat → Nat} (hn : n ≤ 30) (hg : gGood n g) : ∀ l : List Nat, (∀ t ∈ l, StOk n S t ∧ (fS S t = 4 → t < 60)) → ∀ r ∈ stR S g l, RlOk r
  | [], _, r, hr => by simp [stR] at hr
  | t :: l, h, r, hr => by
    rw [stR, List.mem_append] at hr
    rcases hr with hr | hr
    · exact rls_ok hn (h t (List.mem_cons_self ..)).1 hg (h t (List.mem_cons_self ..)).2 r hr
    · exact stR_ok hn hg l (fun t ht => h t (List.mem_cons_of_mem _ ht)) r hr
