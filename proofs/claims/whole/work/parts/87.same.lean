/-! what is said of what statements say rests on them alone -/
theorem foldl_cg {α β : Type} {f f' : α → β → α} : ∀ (l : List β) (a : α), (∀ t, t ∈ l → ∀ a, f' a t = f a t) → l.foldl f' a = l.foldl f a
  | [], _, _ => rfl
  | t :: l, a, h => by
    rw [List.foldl_cons, List.foldl_cons, h t (List.mem_cons_self ..)]
    exact foldl_cg l _ (fun t ht a => h t (List.mem_cons_of_mem _ ht) a)
/-- the two tell the same of these -/
def AgL (S S' : Nat → Int) (l : List Nat) : Prop := S' 0 = S 0 ∧ (∀ p, p < 30 → pX S' p = pX S p) ∧ ∀ t, t ∈ l → fS S' t = fS S t ∧ fA S' t = fA S t ∧ fB S' t = fB S t ∧ fL S' t = fL S t ∧ fH S' t = fH S t
theorem AgL.n {S S' : Nat → Int} {l : List Nat} (h : AgL S S' l) : sN S' = sN S := by unfold sN; rw [h.1]
theorem AgL.gLe {S S' : Nat → Int} {l : List Nat} (h : AgL S S' l) : gL S' l = gL S l := foldl_cg l _ (fun t ht a => by
  obtain ⟨e1, e2, e3, _⟩ := h.2.2 t ht
  unfold jst
  rw [e1, e2, e3, h.n])
theorem AgL.paLe {S S' : Nat → Int} {l : List Nat} (h : AgL S S' l) (g : Nat → Nat) (s : Int) : paL S' g s l = paL S g s l := foldl_cg l _ (fun t ht a => by
  obtain ⟨e1, e2, e3, _⟩ := h.2.2 t ht
  unfold mst
  rw [e1, e2, e3])
theorem AgL.sxLe {S S' : Nat → Int} {l : List Nat} (h : AgL S S' l) (g m : Nat → Nat) : sxL S' g m l = sxL S g m l := foldl_cg l _ (fun t ht a => by
  obtain ⟨e1, e2, e3, _⟩ := h.2.2 t ht
  unfold sxst
  rw [e1, e3])
theorem AgL.spLe {S S' : Nat → Int} {l : List Nat} (h : AgL S S' l) (g : Nat → Nat) : spL S' g l = spL S g l := foldl_cg l _ (fun t ht a => by
  obtain ⟨e1, e2, e3, _⟩ := h.2.2 t ht
  unfold spst
  rw [e1, e2, e3])
theorem AgL.mgLe {S S' : Nat → Int} {l : List Nat} (h : AgL S S' l) (g : Nat → Nat) : mgL S' g l = mgL S g l := foldl_cg l _ (fun t ht a => by
  obtain ⟨e1, e2, e3, _⟩ := h.2.2 t ht
  unfold mgst
  rw [e1, e2, e3])
theorem AgL.sxKe {S S' : Nat → Int} {l : List Nat} (h : AgL S S' l) (g : Nat → Nat) : ∀ k, k ≤ 30 → sxK S' g k = sxK S g k
  | 0, _ => rfl
  | k + 1, hk => by
    show fup (sxK S' g k) (g k) _ = fup (sxK S g k) (g k) _
    rw [AgL.sxKe h g k (by omega), h.2.1 k (by omega)]
theorem AgL.sxRe {S S' : Nat → Int} {l : List Nat} (h : AgL S S' l) (g mo fa : Nat → Nat) (q : Nat) : ∀ k, k ≤ 30 → sxR S' g mo fa q k = sxR S g mo fa q k
  | 0, _ => rfl
  | k + 1, hk => by
    simp only [sxR]
    rw [AgL.sxRe h g mo fa q k (by omega), h.2.1 k (by omega)]
theorem AgL.stRe {S S' : Nat → Int} (g : Nat → Nat) : ∀ {l : List Nat}, AgL S S' l → stR S' g l = stR S g l
  | [], _ => rfl
  | t :: l, h => by
    obtain ⟨e1, e2, e3, e4, e5⟩ := h.2.2 t (List.mem_cons_self ..)
    have ih := AgL.stRe g (l := l) ⟨h.1, h.2.1, fun t ht => h.2.2 t (List.mem_cons_of_mem _ ht)⟩
    simp only [stR]
    rw [ih]
    congr 1
    unfold rls
    rw [e1, e2, e3, e4, e5]
theorem AgL.allRe {S S' : Nat → Int} {l : List Nat} (h : AgL S S' l) : allR S' (gL S' l) l = allR S (gL S l) l := by
  unfold allR
  rw [h.gLe, h.n, AgL.stRe _ h]
theorem AgL.P1 {S S' : Nat → Int} {l : List Nat} (h : AgL S S' l) (hn : sN S ≤ 30) : P1f S' l = P1f S l := by
  funext p
  unfold P1f
  rw [h.gLe, h.paLe, h.paLe, h.n, h.sxRe _ _ _ _ _ hn]
theorem AgL.P2 {S S' : Nat → Int} {l : List Nat} (h : AgL S S' l) : P2f S' l = P2f S l := by
  funext p
  unfold P2f
  rw [h.gLe, h.paLe, h.paLe]
theorem AgL.CRe {S S' : Nat → Int} {l : List Nat} {c : Int} (h : AgL S S' l) (hn : sN S ≤ 30) (k : CR S l c) : CR S' l c := by
  obtain ⟨ab, cl, wh, h1, h2, h3⟩ := k
  refine ⟨ab, cl, wh, ?_, ?_, ?_⟩
  · rw [h.n, h.gLe, h.paLe, h.paLe]; exact h1
  · rw [h.n, h.P1 hn, h.P2]; exact h2
  · rw [h.allRe]; exact h3
theorem AgL.sy {S S' : Nat → Int} {l : List Nat} (h : AgL S S' l) : AgL S' S l := ⟨h.1.symm, fun p hp => (h.2.1 p hp).symm, fun t ht => by
  obtain ⟨e1, e2, e3, e4, e5⟩ := h.2.2 t ht
  exact ⟨e1.symm, e2.symm, e3.symm, e4.symm, e5.symm⟩⟩
theorem AgL.folk {S S' : Nat → Int} {l : List Nat} {z : Hp} {f : Nat} {ab : Nat → Nat} (h : AgL S S' l) (hn : sN S ≤ 30) (k : FolkIs z f S l ab) : FolkIs z f S' l ab := by
  unfold FolkIs Hst at *
  rw [h.n, h.gLe, h.paLe, h.paLe, h.sxKe _ _ hn, h.sxLe, h.spLe, h.mgLe]
  exact k
theorem AgL.cls {S S' : Nat → Int} {l : List Nat} {z : Hp} {t F : Nat} (h : AgL S S' l) (hn : sN S ≤ 30) (k : ClsW z t S l F) : ClsW z t S' l F := by
  obtain ⟨h1, h2, ab, cl, wh, h3, h4, h5⟩ := k
  refine ⟨h1, h2, ab, cl, wh, h.folk hn h3, ?_, ?_⟩
  · rw [h.n, h.P1 hn, h.P2]; exact h4
  · rw [h.allRe]; exact h5
theorem CR.uq {S : Nat → Int} {l : List Nat} {c d : Int} (hn : sN S ≤ 30) (h : CR S l c) (k : CR S l d) : c = d := by
  obtain ⟨ab, cl, wh, h1, h2, h3⟩ := h
  obtain ⟨ab', cl', wh', k1, k2, k3⟩ := k
  have k2' := LkIs'.cg3 (P3' := P3f ab) k2 (fun p hp => by unfold P3f; rw [IsAb.eq h1 k1 (by omega)])
  obtain ⟨e1, e2⟩ := h2.uq k2'
  generalize rCl (runR (allR S (gL S l) l) 1000000 0 rSt0).2 = x at *
  omega
/-- what a world worked in few rounds says -/
theorem ClsW.cr {z : Hp} {t F : Nat} {S : Nat → Int} {l : List Nat} (hF : 121 ≤ F) (hall : ∀ r ∈ allR S (gL S l) l, RlOk r ∧ 0 ≤ r.2.2.2.2 ∧ r.2.2.2.2 < 160) (h : ClsW z t S l F) : CR S l (z t 4) := by
  obtain ⟨_, _, ab, cl, wh, h3, h4, h5, h6⟩ := h
  refine ⟨ab, cl, wh, h3.1, h4, ?_⟩
  rcases h6 with ⟨a, b, _⟩ | ⟨a, b, c, d⟩
  · exact Or.inl ⟨a, b⟩
  · refine Or.inr ⟨a, ?_⟩
    have hok := fun r hr => (hall r hr).1
    have qs := run_stp (F := 1000000) hok rSt0_RB rSt0_wid
    obtain ⟨q1, _, _⟩ := run_all hall 1000000
    rcases d with ⟨d1, d2, d3⟩ | ⟨d1, d2⟩
    · have e := run_enough (F := F) (F' := 1000000) hok (by omega) (Or.inr d3) d2 (by decide)
      rw [e, d1, d2]
    · have := q1.2.2.1
      rcases this with z0 | z0
      · have e := run_enough (F := 1000000) (F' := F) hok (by decide) qs z0 hF
        rw [e] at d2
        exact absurd ⟨z0, qs.resolve_left (fun q => q z0)⟩ d2
      · rw [d1, z0]
/-- what the reference finds -/
theorem RefW.cr {z : Hp} {S : Nat → Int} (h : RefW z S) : CR S (lv S) (z 0 17) := by
  obtain ⟨ab, cl, wh, _, _, _, _, h1, h2, h3⟩ := h
  refine ⟨ab, cl, wh, h1, h2, ?_⟩
  rcases h3 with ⟨a, _, b, _⟩ | ⟨a, b, _⟩
  · exact Or.inl ⟨a, b⟩
  · exact Or.inr ⟨a, b.2.1⟩
