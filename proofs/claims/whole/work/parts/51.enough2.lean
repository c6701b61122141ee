/-! rules as such growths; ENOUGH ROUNDS is enough -/
def val (s : RSt) (e : Nat) : Int := if e % 2 = 0 then rE s e else - rE s e
def opsR (r : Rl) : List Vop := if r.2.1 < 0 then [(2 * r.1, none, r.2.2.1), (2 * r.1 + 1, none, - r.2.2.2.1)] else [(2 * r.1, some (2 * r.2.1.toNat), r.2.2.1), (2 * r.1 + 1, some (2 * r.2.1.toNat + 1), - r.2.2.2.1), (2 * r.2.1.toNat, some (2 * r.1), - r.2.2.2.1), (2 * r.2.1.toNat + 1, some (2 * r.1 + 1), r.2.2.1)]
def opsL : List Rl → List Vop
  | [] => []
  | r :: l => opsR r ++ opsL l
theorem nar_v {ru : Int} {e : Nat} {v b u : Int} {s : RSt} (hc : rCl s = 0) (hu : u = if e % 2 = 0 then v else - v) : val (nar ru e v b s) = fup (val s) e (max (val s e) u) := by
  unfold nar
  rw [if_neg (fun q => q hc)]
  by_cases c1 : (e % 2 = 1 ∧ rE s e ≤ v) ∨ (e % 2 = 0 ∧ v ≤ rE s e)
  · rw [if_pos c1]
    have hle : u ≤ val s e := by
      unfold val
      rw [hu]
      rcases c1 with ⟨a, b⟩ | ⟨a, b⟩
      · rw [if_neg (by omega), if_neg (by omega)]; omega
      · rw [if_pos a, if_pos a]; exact b
    funext q
    by_cases g : q = e
    · subst g; rw [fup_eq]; omega
    · rw [fup_ne g]
  · rw [if_neg c1]
    funext q
    show (if q % 2 = 0 then fup (rE s) e v q else - fup (rE s) e v q) = _
    by_cases g : q = e
    · subst g
      rw [fup_eq, fup_eq, hu]
      unfold val
      by_cases a : q % 2 = 0
      · rw [if_pos a, if_pos a]; omega
      · rw [if_neg a, if_neg a]; omega
    · rw [fup_ne g, fup_ne g]; rfl
theorem nar_no {ru : Int} {e : Nat} {v b u : Int} {s : RSt} (hc : rCl s = 0) (hu : u = if e % 2 = 0 then v else - v) (hle : u ≤ val s e) : nar ru e v b s = s := by
  unfold nar
  rw [if_neg (fun q => q hc), if_pos]
  unfold val at hle
  rw [hu] at hle
  by_cases a : e % 2 = 0
  · rw [if_pos a, if_pos a] at hle; exact Or.inr ⟨a, hle⟩
  · rw [if_neg a, if_neg a] at hle; exact Or.inl ⟨by omega, by omega⟩
theorem nar_ch0 {ru : Int} {e : Nat} {v b : Int} {s : RSt} (h : rCh (nar ru e v b s) = 0) : nar ru e v b s = s := by
  unfold nar at h ⊢
  by_cases c0 : rCl s ≠ 0
  · rw [if_pos c0]
  · rw [if_neg c0] at h ⊢
    by_cases c1 : (e % 2 = 1 ∧ rE s e ≤ v) ∨ (e % 2 = 0 ∧ v ≤ rE s e)
    · rw [if_pos c1]
    · rw [if_neg c1] at h
      exact absurd (show (1 : Int) = 0 from h) (by decide)
theorem nar_cl0 {ru : Int} {e : Nat} {v b : Int} {s : RSt} (h : rCl (nar ru e v b s) = 0) : rCl s = 0 := Decidable.byContradiction fun q => by rw [nar_cl q] at h; exact q h
theorem apl_val {s : RSt} {r : Rl} (h : rCl (apl s r) = 0) : val (apl s r) = (opsR r).foldl vop (val s) := by
  obtain ⟨x, y, c, d, ru⟩ := r
  by_cases hy : y < 0
  · have e : apl s (x, y, c, d, ru) = nar ru (2 * x + 1) d (-5) (nar ru (2 * x) c (-5) s) := by
      unfold apl
      rw [if_pos (show (x, y, c, d, ru).2.1 < 0 from hy)]
    have eo : opsR (x, y, c, d, ru) = [(2 * x, none, c), (2 * x + 1, none, - d)] := by unfold opsR; rw [if_pos (show (x, y, c, d, ru).2.1 < 0 from hy)]
    rw [e] at h ⊢
    have h1 := nar_cl0 h
    have h0 := nar_cl0 h1
    rw [eo, nar_v (u := - d) h1 (by rw [if_neg (by omega)]), nar_v (u := c) h0 (by rw [if_pos (by omega)])]
    rfl
  · obtain ⟨y', rfl⟩ : ∃ y' : Nat, y = y' := ⟨y.toNat, by omega⟩
    have eo : opsR (x, (y' : Int), c, d, ru) = [(2 * x, some (2 * y'), c), (2 * x + 1, some (2 * y' + 1), - d), (2 * y', some (2 * x), - d), (2 * y' + 1, some (2 * x + 1), c)] := by
      unfold opsR
      rw [if_neg (show ¬ (x, (y' : Int), c, d, ru).2.1 < 0 from hy)]
      simp only [Int.toNat_natCast]
    generalize g1 : nar ru (2 * x) (rE s (2 * y') + c) ((2 * y' : Nat) : Int) s = s1
    generalize g2 : nar ru (2 * x + 1) (rE s1 (2 * y' + 1) + d) ((2 * y' + 1 : Nat) : Int) s1 = s2
    generalize g3 : nar ru (2 * y') (rE s2 (2 * x) - d) ((2 * x : Nat) : Int) s2 = s3
    rw [apl_two g1 g2 g3] at h ⊢
    have h3 := nar_cl0 h
    have h2 : rCl s2 = 0 := by rw [← g3] at h3; exact nar_cl0 h3
    have h1 : rCl s1 = 0 := by rw [← g2] at h2; exact nar_cl0 h2
    have h0 : rCl s = 0 := by rw [← g1] at h1; exact nar_cl0 h1
    have ve : ∀ (s : RSt) (i : Nat), val s (2 * i) = rE s (2 * i) := fun s i => if_pos (by omega)
    have vo : ∀ (s : RSt) (i : Nat), val s (2 * i + 1) = - rE s (2 * i + 1) := fun s i => if_neg (by omega)
    have q1 : val s1 = vop (val s) (2 * x, some (2 * y'), c) := by
      rw [← g1, nar_v (u := val s (2 * y') + c) h0 (by rw [if_pos (by omega), ve])]; rfl
    have q2 : val s2 = vop (val s1) (2 * x + 1, some (2 * y' + 1), - d) := by
      rw [← g2, nar_v (u := val s1 (2 * y' + 1) + - d) h1 (by rw [if_neg (by omega), vo]; omega)]; rfl
    have q3 : val s3 = vop (val s2) (2 * y', some (2 * x), - d) := by
      rw [← g3, nar_v (u := val s2 (2 * x) + - d) h2 (by rw [if_pos (by omega), ve]; omega)]; rfl
    rw [nar_v (u := val s3 (2 * x + 1) + c) h3 (by rw [if_neg (by omega), vo]; omega), eo, List.foldl_cons, List.foldl_cons, List.foldl_cons, List.foldl_cons, List.foldl_nil, ← q1, ← q2, ← q3]
    rfl
theorem apl_no {s : RSt} {r : Rl} (hc : rCl s = 0) (h : ∀ o ∈ opsR r, tgt (val s) o ≤ val s o.1) : apl s r = s := by
  obtain ⟨x, y, c, d, ru⟩ := r
  by_cases hy : y < 0
  · have e : apl s (x, y, c, d, ru) = nar ru (2 * x + 1) d (-5) (nar ru (2 * x) c (-5) s) := by
      unfold apl
      rw [if_pos (show (x, y, c, d, ru).2.1 < 0 from hy)]
    have eo : opsR (x, y, c, d, ru) = [(2 * x, none, c), (2 * x + 1, none, - d)] := by unfold opsR; rw [if_pos (show (x, y, c, d, ru).2.1 < 0 from hy)]
    rw [eo] at h
    have t1 : c ≤ val s (2 * x) := h (2 * x, none, c) (by simp)
    have t2 : - d ≤ val s (2 * x + 1) := h (2 * x + 1, none, - d) (by simp)
    rw [e, nar_no (e := 2 * x) hc (by rw [if_pos (by omega)]) t1, nar_no (e := 2 * x + 1) hc (by rw [if_neg (by omega)]) t2]
  · obtain ⟨y', rfl⟩ : ∃ y' : Nat, y = y' := ⟨y.toNat, by omega⟩
    have eo : opsR (x, (y' : Int), c, d, ru) = [(2 * x, some (2 * y'), c), (2 * x + 1, some (2 * y' + 1), - d), (2 * y', some (2 * x), - d), (2 * y' + 1, some (2 * x + 1), c)] := by
      unfold opsR
      rw [if_neg (show ¬ (x, (y' : Int), c, d, ru).2.1 < 0 from hy)]
      simp only [Int.toNat_natCast]
    rw [eo] at h
    have t1 : val s (2 * y') + c ≤ val s (2 * x) := h (2 * x, some (2 * y'), c) (by simp)
    have t2 : val s (2 * y' + 1) + - d ≤ val s (2 * x + 1) := h (2 * x + 1, some (2 * y' + 1), - d) (by simp)
    have t3 : val s (2 * x) + - d ≤ val s (2 * y') := h (2 * y', some (2 * x), - d) (by simp)
    have t4 : val s (2 * x + 1) + c ≤ val s (2 * y' + 1) := h (2 * y' + 1, some (2 * x + 1), c) (by simp)
    have ve : ∀ (s : RSt) (i : Nat), val s (2 * i) = rE s (2 * i) := fun s i => if_pos (by omega)
    have vo : ∀ (s : RSt) (i : Nat), val s (2 * i + 1) = - rE s (2 * i + 1) := fun s i => if_neg (by omega)
    have g1 : nar ru (2 * x) (rE s (2 * y') + c) ((2 * y' : Nat) : Int) s = s := nar_no hc (by rw [if_pos (by omega), ve]) t1
    have g2 : nar ru (2 * x + 1) (rE s (2 * y' + 1) + d) ((2 * y' + 1 : Nat) : Int) s = s := nar_no hc (by rw [if_neg (by omega), vo]; omega) t2
    have g3 : nar ru (2 * y') (rE s (2 * x) - d) ((2 * x : Nat) : Int) s = s := nar_no hc (by rw [if_pos (by omega), ve]; omega) t3
    rw [apl_two g1 g2 g3]
    exact nar_no hc (by rw [if_neg (by omega), vo]; omega) t4
theorem apl_ch0 {s : RSt} {r : Rl} (h : rCh (apl s r) = 0) : apl s r = s := by
  obtain ⟨x, y, c, d, ru⟩ := r
  by_cases hy : y < 0
  · have e : apl s (x, y, c, d, ru) = nar ru (2 * x + 1) d (-5) (nar ru (2 * x) c (-5) s) := by
      unfold apl
      rw [if_pos (show (x, y, c, d, ru).2.1 < 0 from hy)]
    rw [e] at h ⊢
    have q := nar_ch0 h
    rw [q] at h ⊢
    exact nar_ch0 h
  · obtain ⟨y', rfl⟩ : ∃ y' : Nat, y = y' := ⟨y.toNat, by omega⟩
    generalize g1 : nar ru (2 * x) (rE s (2 * y') + c) ((2 * y' : Nat) : Int) s = s1
    generalize g2 : nar ru (2 * x + 1) (rE s1 (2 * y' + 1) + d) ((2 * y' + 1 : Nat) : Int) s1 = s2
    generalize g3 : nar ru (2 * y') (rE s2 (2 * x) - d) ((2 * x : Nat) : Int) s2 = s3
    rw [apl_two g1 g2 g3] at h ⊢
    have q4 := nar_ch0 h
    rw [q4] at h ⊢
    rw [← g3] at h ⊢
    have q3 := nar_ch0 h
    rw [q3] at h ⊢
    rw [← g2] at h ⊢
    have q2 := nar_ch0 h
    rw [q2] at h ⊢
    rw [← g1] at h ⊢
    exact nar_ch0 h
theorem foldl_ch0 : ∀ (l : List Rl) (s : RSt), rCh (l.foldl apl s) = 0 → l.foldl apl s = s
  | [], _, _ => rfl
  | r :: l, s, h => by
    rw [List.foldl_cons] at h ⊢
    have q := foldl_ch0 l (apl s r) h
    rw [q] at h ⊢
    exact apl_ch0 h
theorem foldl_val : ∀ (l : List Rl) (s : RSt), rCl (l.foldl apl s) = 0 → val (l.foldl apl s) = (opsL l).foldl vop (val s)
  | [], _, _ => rfl
  | r :: l, s, h => by
    rw [List.foldl_cons] at h ⊢
    have h1 : rCl (apl s r) = 0 := Decidable.byContradiction fun q => by rw [foldl_cl l _ q] at h; exact q h
    rw [foldl_val l (apl s r) h, apl_val h1, opsL, List.foldl_append]
theorem foldl_no : ∀ (l : List Rl) (s : RSt), rCl s = 0 → (∀ o ∈ opsL l, tgt (val s) o ≤ val s o.1) → l.foldl apl s = s
  | [], _, _, _ => rfl
  | r :: l, s, hc, h => by
    rw [opsL] at h
    rw [List.foldl_cons, apl_no hc (fun o ho => h o (List.mem_append_left _ ho))]
    exact foldl_no l s hc (fun o ho => h o (List.mem_append_right _ ho))
theorem opsL_ok : ∀ l : List Rl, (∀ r ∈ l, RlOk r) → ∀ o ∈ opsL l, VOk o
  | [], _, o, ho => by simp [opsL] at ho
  | r :: l, h, o, ho => by
    rw [opsL, List.mem_append] at ho
    rcases ho with ho | ho
    · obtain ⟨h1, h2, _, _⟩ := h r (List.mem_cons_self ..)
      obtain ⟨x, y, c, d, ru⟩ := r
      dsimp only at h1 h2
      unfold opsR at ho
      split at ho
      · simp only [List.mem_cons, List.not_mem_nil, or_false] at ho
        rcases ho with rfl | rfl
        · exact ⟨by dsimp only; omega, fun f q => by cases q⟩
        · exact ⟨by dsimp only; omega, fun f q => by cases q⟩
      · simp only [List.mem_cons, List.not_mem_nil, or_false] at ho
        rcases ho with rfl | rfl | rfl | rfl
        · exact ⟨by dsimp only; omega, fun f q => by cases q; dsimp only; omega⟩
        · exact ⟨by dsimp only; omega, fun f q => by cases q; dsimp only; omega⟩
        · exact ⟨by dsimp only; omega, fun f q => by cases q; dsimp only; omega⟩
        · exact ⟨by dsimp only; omega, fun f q => by cases q; dsimp only; omega⟩
    · exact opsL_ok l (fun r hr => h r (List.mem_cons_of_mem _ hr)) o ho
theorem vfold_fix {O : List Vop} {V : Nat → Int} (h : O.foldl vop V = V) : ∀ o ∈ O, tgt V o ≤ V o.1 := fun o ho => by
  obtain ⟨O1, O2, e⟩ := List.append_of_mem ho
  rw [e, List.foldl_append, List.foldl_cons] at h
  have g1 := vfold_ge O1 V
  have e1 : O1.foldl vop V = V := by
    funext q
    have a1 := g1 q
    have a2 := vop_ge (O1.foldl vop V) o q
    have a3 := vfold_ge O2 (vop (O1.foldl vop V) o) q
    rw [h] at a3
    omega
  rw [e1] at h
  have a3 := vfold_ge O2 (vop V o) o.1
  rw [h] at a3
  unfold vop at a3
  rw [fup_eq] at a3
  have := Int.le_max_right (V o.1) (tgt V o)
  omega
def Stt (l : List Rl) (s : RSt) : Nat → RSt
  | 0 => s
  | n + 1 => rnd l (Stt l s n)
theorem Stt_in (l : List Rl) (s : RSt) : ∀ n, Stt l (rnd l s) n = Stt l s (n + 1)
  | 0 => rfl
  | n + 1 => by rw [Stt, Stt_in l s n]; rfl
def stp (s : RSt) : Prop := rCl s ≠ 0 ∨ rCh s = 0
theorem runR_spec (l : List Rl) : ∀ (F k : Nat) (s : RSt), (∃ n, n < F ∧ stp (Stt l s (n + 1)) ∧ (∀ m, m < n → ¬ stp (Stt l s (m + 1))) ∧ runR l F k s = (k + n + 1, Stt l s (n + 1))) ∨ ((∀ n, n < F → ¬ stp (Stt l s (n + 1))) ∧ runR l F k s = (k + F, Stt l s F))
  | 0, k, s => Or.inr ⟨fun n h => absurd h (by omega), rfl⟩
  | F + 1, k, s => by
    by_cases c : rCl (rnd l s) ≠ 0 ∨ rCh (rnd l s) = 0
    · refine Or.inl ⟨0, by omega, c, fun m h => absurd h (by omega), ?_⟩
      rw [runR, if_pos c]; rfl
    · rw [runR, if_neg c]
      rcases runR_spec l F (k + 1) (rnd l s) with ⟨n, h1, h2, h3, h4⟩ | ⟨h1, h2⟩
      · refine Or.inl ⟨n + 1, by omega, by rw [← Stt_in]; exact h2, fun m hm => ?_, by rw [h4, Stt_in, show k + 1 + n + 1 = k + (n + 1) + 1 by omega]⟩
        cases m with
        | zero => exact c
        | succ m => rw [← Stt_in]; exact h3 m (by omega)
      · refine Or.inr ⟨fun n hn => ?_, by rw [h2, Stt_in, show k + 1 + F = k + (F + 1) by omega]⟩
        cases n with
        | zero => exact c
        | succ n => rw [← Stt_in]; exact h1 n (by omega)
theorem run_enough {l : List Rl} {s : RSt} {F F' : Nat} (hok : ∀ r ∈ l, RlOk r) (hF : 1 ≤ F) (hst : stp (runR l F 0 s).2) (h0 : rCl (runR l F 0 s).2 = 0) (hF' : 121 ≤ F') : runR l F' 0 s = runR l F 0 s := by
  rcases runR_spec l F 0 s with ⟨n, h1, h2, h3, h4⟩ | ⟨h1, h2⟩
  · rw [h4] at h0 hst
    dsimp only at h0 hst
    have hn : n ≤ 120 := by
      refine Decidable.byContradiction fun hn => ?_
      have cl : ∀ m, m ≤ n + 1 → 1 ≤ m → rCl (Stt l s m) = 0 := fun m hm h1 => by
        by_cases e : m = n + 1
        · rw [e]; exact h0
        · obtain ⟨m', rfl⟩ : ∃ m', m = m' + 1 := ⟨m - 1, by omega⟩
          exact Decidable.byContradiction fun q => h3 m' (by omega) (Or.inl q)
      have hch : rCh (Stt l s (n + 1)) = 0 := h2.resolve_left (fun q => q h0)
      have hq : Stt l s (n + 1) = quiet (Stt l s n) := foldl_ch0 l _ hch
      have hv : ∀ m, m < n + 1 → val (Stt l s (m + 1)) = (opsL l).foldl vop (val (Stt l s m)) := fun m hm => foldl_val l (quiet (Stt l s m)) (cl (m + 1) (by omega) (by omega))
      have hfix : ∀ o ∈ opsL l, tgt (val (Stt l s n)) o ≤ val (Stt l s n) o.1 := vfold_fix (by rw [← hv n (by omega), hq]; rfl)
      have hvo := opsL_ok l hok
      have h120 := v_enough (fun m => val (Stt l s m)) n (fun o ho => ⟨hvo o ho, hfix o ho⟩) (fun m hm => hv m (by omega)) (fun e _ => rfl) (by omega)
      have hno : Stt l s 121 = quiet (Stt l s 120) := foldl_no l (quiet (Stt l s 120)) (cl 120 (by omega) (by omega)) (fun o ho => by
        have a1 := hvo o ho
        have a2 := hfix o ho
        show tgt (val (Stt l s 120)) o ≤ val (Stt l s 120) o.1
        rw [h120 o.1 a1.1, tgt_cg (V := val (Stt l s 120)) (T := val (Stt l s n)) (fun f q => h120 f (a1.2 f q).1)]
        exact a2)
      exact h3 120 (by omega) (Or.inr (by rw [hno]; rfl))
    rcases runR_spec l F' 0 s with ⟨n', k1, k2, k3, k4⟩ | ⟨k1, k2⟩
    · have : n' = n := by
        rcases Nat.lt_trichotomy n' n with q | q | q
        · exact absurd k2 (h3 n' q)
        · exact q
        · exact absurd h2 (k3 n q)
      subst this
      rw [k4, h4]
    · exact absurd h2 (k1 n (by omega))
  · rw [h2] at hst
    obtain ⟨F0, rfl⟩ : ∃ F0, F = F0 + 1 := ⟨F - 1, by omega⟩
    exact absurd hst (h1 F0 (by omega))
