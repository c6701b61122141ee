/-! ENOUGH ROUNDS: ends only grow (told so that all do); what is not yet settled gets one less in each round -/
abbrev Vop : Type := Nat × Option Nat × Int
def tgt (V : Nat → Int) (o : Vop) : Int := match o.2.1 with
  | some f => V f + o.2.2
  | none => o.2.2
def vop (V : Nat → Int) (o : Vop) : Nat → Int := fup V o.1 (max (V o.1) (tgt V o))
def VOk (o : Vop) : Prop := o.1 < 240 ∧ ∀ f, o.2.1 = some f → f < 240 ∧ f % 2 = o.1 % 2
def Le4 (V T : Nat → Int) : Prop := ∀ e, e < 240 → V e ≤ T e
theorem tgt_mono {V T : Nat → Int} {o : Vop} (h : ∀ f, o.2.1 = some f → V f ≤ T f) : tgt V o ≤ tgt T o := by
  obtain ⟨e, f, w⟩ := o
  cases f with
  | none => exact Int.le_refl _
  | some f => exact Int.add_le_add_right (h f rfl) w
theorem tgt_cg {V T : Nat → Int} {o : Vop} (h : ∀ f, o.2.1 = some f → V f = T f) : tgt V o = tgt T o := by
  obtain ⟨e, f, w⟩ := o
  cases f with
  | none => rfl
  | some f => show V f + w = T f + w; rw [h f rfl]
theorem vop_ge (V : Nat → Int) (o : Vop) (e : Nat) : V e ≤ vop V o e := by
  unfold vop
  by_cases c : e = o.1
  · rw [c, fup_eq]; exact Int.le_max_left ..
  · rw [fup_ne c]; exact Int.le_refl _
theorem vop_le {V T : Nat → Int} {o : Vop} (ho : VOk o) (hf : tgt T o ≤ T o.1) (h : Le4 V T) : Le4 (vop V o) T := fun e he => by
  unfold vop
  by_cases c : e = o.1
  · rw [c, fup_eq]
    have h1 := h o.1 ho.1
    have h2 := tgt_mono (V := V) (T := T) (o := o) (fun f q => h f (ho.2 f q).1)
    omega
  · rw [fup_ne c]; exact h e he
theorem vfold_ge : ∀ (O : List Vop) (V : Nat → Int) (e : Nat), V e ≤ O.foldl vop V e
  | [], _, _ => Int.le_refl _
  | o :: O, V, e => Int.le_trans (vop_ge V o e) (vfold_ge O (vop V o) e)
theorem vfold_le {T : Nat → Int} : ∀ (O : List Vop) (V : Nat → Int), (∀ o ∈ O, VOk o ∧ tgt T o ≤ T o.1) → Le4 V T → Le4 (O.foldl vop V) T
  | [], _, _, h => h
  | o :: O, V, ho, h => vfold_le O (vop V o) (fun q hq => ho q (List.mem_cons_of_mem _ hq)) (vop_le (ho o (List.mem_cons_self ..)).1 (ho o (List.mem_cons_self ..)).2 h)
def itR (O : List Vop) : Nat → (Nat → Int) → (Nat → Int)
  | 0, V => V
  | j + 1, V => itR O j (O.foldl vop V)
theorem v_core {O : List Vop} {T W : Nat → Int} {par : Nat} (hO : ∀ o ∈ O, VOk o ∧ tgt T o ≤ T o.1) (hW : Le4 W T) (hx : ∃ x, x < 240 ∧ x % 2 = par ∧ W x < T x) (hj : ∃ j, ∀ e, e < 240 → itR O j W e = T e) : ∃ e, e < 240 ∧ e % 2 = par ∧ W e < T e ∧ O.foldl vop W e = T e := by
  by_cases h : ∃ o, o ∈ O ∧ o.1 % 2 = par ∧ W o.1 < T o.1 ∧ tgt T o = T o.1 ∧ ∀ f, o.2.1 = some f → W f = T f
  · obtain ⟨o, ho, h1, h2, h3, h4⟩ := h
    refine ⟨o.1, (hO o ho).1.1, h1, h2, ?_⟩
    have hlt := (hO o ho).1.1
    have hok := (hO o ho).1
    obtain ⟨O1, O2, e⟩ := List.append_of_mem ho
    have hO1 : ∀ q ∈ O1, VOk q ∧ tgt T q ≤ T q.1 := fun q hq => hO q (by rw [e]; exact List.mem_append_left _ hq)
    have hO2 : ∀ q ∈ O2, VOk q ∧ tgt T q ≤ T q.1 := fun q hq => hO q (by rw [e]; exact List.mem_append_right _ (List.mem_cons_of_mem _ hq))
    have l1 := vfold_le O1 W hO1 hW
    rw [e, List.foldl_append, List.foldl_cons]
    have g1 := vfold_ge O1 W
    generalize O1.foldl vop W = V1 at *
    have l2 := vop_le hok (by rw [h3]; exact Int.le_refl _) l1
    have et : tgt V1 o = T o.1 := by
      rw [← h3]
      refine tgt_cg (fun f q => ?_)
      have a1 := g1 f
      have a2 := h4 f q
      have a3 := l1 f (hok.2 f q).1
      omega
    have ev : T o.1 ≤ vop V1 o o.1 := by unfold vop; rw [fup_eq, et]; exact Int.le_max_right ..
    have l3 := vfold_le O2 (vop V1 o) hO2 l2
    have g3 := vfold_ge O2 (vop V1 o) o.1
    have := l3 o.1 hlt
    omega
  · exfalso
    obtain ⟨x, x1, x2, x3⟩ := hx
    obtain ⟨j, hj⟩ := hj
    have step : ∀ (o : Vop) (V : Nat → Int), o ∈ O → (Le4 V T ∧ ∀ y, y < 240 → y % 2 = par → W y < T y → V y < T y) → (Le4 (vop V o) T ∧ ∀ y, y < 240 → y % 2 = par → W y < T y → vop V o y < T y) := fun o V ho ⟨i1, i2⟩ => by
      have hok := (hO o ho).1
      have hfx := (hO o ho).2
      refine ⟨vop_le hok hfx i1, fun y y1 y2 y3 => ?_⟩
      unfold vop
      by_cases c : y = o.1
      · subst c
        rw [fup_eq]
        have a1 := i2 o.1 y1 y2 y3
        have a2 : tgt V o < T o.1 := by
          by_cases q : ∀ f, o.2.1 = some f → W f = T f
          · have n1 : tgt T o ≠ T o.1 := fun r => h ⟨o, ho, y2, y3, r, q⟩
            have n2 := tgt_mono (V := V) (T := T) (o := o) (fun f q => i1 f (hok.2 f q).1)
            omega
          · obtain ⟨e, f, w⟩ := o
            cases f with
            | none => exact absurd (fun f q => by cases q) q
            | some f =>
              have f1 := hok.2 f rfl
              have f2 : W f ≠ T f := fun r => q (fun f' q' => by cases q'; exact r)
              have f3 := hW f f1.1
              have f4 := i2 f f1.1 (by rw [f1.2]; exact y2) (by omega)
              have f5 : T f + w ≤ T e := hfx
              show V f + w < T e
              omega
        omega
      · rw [fup_ne c]; exact i2 y y1 y2 y3
    have fold : ∀ (O' : List Vop) (V : Nat → Int), (∀ o ∈ O', o ∈ O) → (Le4 V T ∧ ∀ y, y < 240 → y % 2 = par → W y < T y → V y < T y) → (Le4 (O'.foldl vop V) T ∧ ∀ y, y < 240 → y % 2 = par → W y < T y → O'.foldl vop V y < T y) := fun O' => by
      induction O' with
      | nil => exact fun V _ i => i
      | cons o O' ih => exact fun V ho i => ih (vop V o) (fun q hq => ho q (List.mem_cons_of_mem _ hq)) (step o V (ho o (List.mem_cons_self ..)) i)
    have it : ∀ (j : Nat) (V : Nat → Int), (Le4 V T ∧ ∀ y, y < 240 → y % 2 = par → W y < T y → V y < T y) → ∀ y, y < 240 → y % 2 = par → W y < T y → itR O j V y < T y := fun j => by
      induction j with
      | zero => exact fun V i => i.2
      | succ j ih => exact fun V i => ih (O.foldl vop V) (fold O V (fun _ h => h) i)
    have := it j W ⟨hW, fun y _ _ h => h⟩ x x1 x2 x3
    rw [hj x x1] at this
    omega
def nfin (par : Nat) (T V : Nat → Int) : Nat := sumTo (fun e => if e % 2 = par ∧ V e ≠ T e then 1 else 0) 240
theorem nfin_ub {par : Nat} (hp : par < 2) (T V : Nat → Int) : nfin par T V ≤ 120 := by
  have h : nfin par T V ≤ sumTo (fun e => if e % 2 = par then 1 else 0) 240 := by
    unfold nfin
    refine sumTo_le 240 (fun e _ => ?_)
    by_cases c : e % 2 = par
    · rw [if_pos c]; split <;> omega
    · rw [if_neg c, if_neg (fun q => c q.1)]; exact Nat.le_refl _
  have e0 : sumTo (fun e => if e % 2 = 0 then 1 else 0) 240 = 120 := by decide +kernel
  have e1 : sumTo (fun e => if e % 2 = 1 then 1 else 0) 240 = 120 := by decide +kernel
  have : par = 0 ∨ par = 1 := by omega
  rcases this with rfl | rfl
  · rw [e0] at h; exact h
  · rw [e1] at h; exact h
theorem sumTo_0 {f : Nat → Nat} : ∀ k, sumTo f k = 0 → ∀ i, i < k → f i = 0
  | 0, _, i, hi => absurd hi (by omega)
  | k + 1, h, i, hi => by
    have h : sumTo f k + f k = 0 := h
    by_cases e : i = k
    · subst e; omega
    · exact sumTo_0 k (by omega) i (by omega)
theorem nfin_0 {par : Nat} {T V : Nat → Int} (h : nfin par T V = 0) {e : Nat} (he : e < 240) (hp : e % 2 = par) : V e = T e := by
  have := sumTo_0 240 h e he
  refine Decidable.byContradiction fun hn => ?_
  rw [if_pos ⟨hp, hn⟩] at this
  omega
theorem v_enough {O : List Vop} {T : Nat → Int} (Vs : Nat → Nat → Int) (n : Nat) (hO : ∀ o ∈ O, VOk o ∧ tgt T o ≤ T o.1) (hs : ∀ m, m < n → Vs (m + 1) = O.foldl vop (Vs m)) (hT : ∀ e, e < 240 → Vs n e = T e) (hn : 120 ≤ n) : ∀ e, e < 240 → Vs 120 e = T e := by
  have up : ∀ d m, m + d = n → (∀ e, Vs m e ≤ Vs n e) ∧ itR O d (Vs m) = Vs n := fun d => by
    induction d with
    | zero => intro m h; have : m = n := by omega
              subst this; exact ⟨fun e => Int.le_refl _, rfl⟩
    | succ d ih =>
      intro m h
      obtain ⟨a1, a2⟩ := ih (m + 1) (by omega)
      refine ⟨fun e => ?_, ?_⟩
      · have := vfold_ge O (Vs m) e
        rw [← hs m (by omega)] at this
        exact Int.le_trans this (a1 e)
      · show itR O d (O.foldl vop (Vs m)) = Vs n
        rw [← hs m (by omega)]; exact a2
  have le : ∀ m, m ≤ n → Le4 (Vs m) T := fun m hm e he => by
    have := (up (n - m) m (by omega)).1 e
    rw [hT e he] at this
    exact this
  have go : ∀ par, par < 2 → ∀ m, m ≤ n → nfin par T (Vs m) + m ≤ 120 ∨ nfin par T (Vs m) = 0 := fun par hp m => by
    induction m with
    | zero => intro _; have := nfin_ub hp T (Vs 0); exact Or.inl (by omega)
    | succ m ih =>
      intro hm
      have mono : nfin par T (Vs (m + 1)) ≤ nfin par T (Vs m) := by
        unfold nfin
        refine sumTo_le 240 (fun e he => ?_)
        by_cases c : e % 2 = par ∧ Vs (m + 1) e ≠ T e
        · have g := vfold_ge O (Vs m) e
          rw [← hs m (by omega)] at g
          have g2 := le (m + 1) hm e he
          rw [if_pos c, if_pos ⟨c.1, by omega⟩]; exact Nat.le_refl _
        · rw [if_neg c]; exact Nat.zero_le _
      by_cases z : ∃ x, x < 240 ∧ x % 2 = par ∧ Vs m x < T x
      · obtain ⟨e, e1, e2, e3, e4⟩ := v_core hO (le m (by omega)) z ⟨n - m, fun e he => by rw [(up (n - m) m (by omega)).2]; exact hT e he⟩
        rw [← hs m (by omega)] at e4
        have lt : nfin par T (Vs (m + 1)) < nfin par T (Vs m) := by
          unfold nfin
          refine sumTo_lt 240 (fun e he => ?_) ⟨e, e1, ?_⟩
          · by_cases c : e % 2 = par ∧ Vs (m + 1) e ≠ T e
            · have g := vfold_ge O (Vs m) e
              rw [← hs m (by omega)] at g
              have g2 := le (m + 1) hm e he
              rw [if_pos c, if_pos ⟨c.1, by omega⟩]; exact Nat.le_refl _
            · rw [if_neg c]; exact Nat.zero_le _
          · rw [if_neg (fun q => q.2 e4), if_pos ⟨e2, by omega⟩]; decide
        rcases ih (by omega) with h | h
        · exact Or.inl (by omega)
        · omega
      · have : nfin par T (Vs m) = 0 := by
          unfold nfin
          have hz : ∀ k, k ≤ 240 → sumTo (fun e => if e % 2 = par ∧ Vs m e ≠ T e then 1 else 0) k = 0 := fun k => by
            induction k with
            | zero => intro _; rfl
            | succ k ih =>
              intro hk
              rw [sumTo, ih (by omega), if_neg (fun q => z ⟨k, by omega, q.1, by have := le m (by omega) k (by omega); omega⟩)]
          exact hz 240 (Nat.le_refl _)
        exact Or.inr (by omega)
  intro e he
  have hpar : e % 2 < 2 := Nat.mod_lt _ (by decide)
  rcases go (e % 2) hpar 120 hn with h | h
  · exact nfin_0 (by omega) he rfl
  · exact nfin_0 h he rfl
