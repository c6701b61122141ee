/-! the reference's culprits -/
theorem flip_lv {S : Nat → Int} {t : Nat} : ∀ k, lvK (fun j => if j = 242 + 6 * t + 5 then 0 else S j) k = selK S t k
  | 0 => rfl
  | k + 1 => by
    rw [lvK_succ, selK_succ, flip_lv k]
    congr 1
    by_cases g : k = t
    · subst g
      rw [if_neg (show ¬ (fV S k = 1 ∧ (k : Int) ≠ k) from fun q => q.2 rfl)]
      refine if_neg (fun q => ?_)
      have : fV (fun j => if j = 242 + 6 * k + 5 then (0 : Int) else S j) k = 1 := of_decide_eq_true q
      have e : fV (fun j => if j = 242 + 6 * k + 5 then (0 : Int) else S j) k = 0 := if_pos rfl
      exact absurd (e.symm.trans this) (by decide)
    · have e : fV (fun j => if j = 242 + 6 * t + 5 then (0 : Int) else S j) k = fV S k := if_neg (by omega)
      unfold isLv
      rw [e]
      by_cases v : fV S k = 1
      · rw [if_pos (decide_eq_true v), if_pos ⟨v, by omega⟩]
      · rw [if_neg (fun q => v (of_decide_eq_true q)), if_neg (fun q => v q.1)]
theorem flip_ok {S : Nat → Int} {t : Nat} (h : SOk 60 S) (ht : t < sT S) : SOk 60 (fun j => if j = 242 + 6 * t + 5 then 0 else S j) ∧ sT (fun j => if j = 242 + 6 * t + 5 then 0 else S j) = sT S ∧ ∀ l, AgL S (fun j => if j = 242 + 6 * t + 5 then 0 else S j) l := by
  have ne : ∀ j, j ≠ 242 + 6 * t + 5 → (fun j => if j = 242 + 6 * t + 5 then 0 else S j) j = S j := fun j hj => if_neg hj
  have eq : (fun j => if j = 242 + 6 * t + 5 then 0 else S j) (242 + 6 * t + 5) = 0 := if_pos rfl
  generalize (fun j => if j = 242 + 6 * t + 5 then 0 else S j) = S' at *
  have hn := h.n
  have en : sN S' = sN S := by unfold sN; rw [ne 0 (by omega)]
  have et : sT S' = sT S := by unfold sT; rw [ne 1 (by omega)]
  refine ⟨⟨by rw [ne 0 (by omega)]; exact h.1, by rw [ne 1 (by omega)]; exact h.2.1, fun p hp => ?_, fun u hu => ?_⟩, et, fun l => ⟨ne 0 (by omega), fun p hp => ne _ (by omega), fun u _ => ?_⟩⟩
  · rw [en] at hp
    exact (h.2.2.1 p hp).cg (fun i hi => ne _ (by omega))
  · rw [et] at hu
    rw [en]
    have hou := h.2.2.2 u hu
    by_cases g : u = t
    · subst g
      have x0 : fS S' u = fS S u := ne _ (by omega)
      have x2 : fB S' u = fB S u := ne _ (by omega)
      have x3 : fL S' u = fL S u := ne _ (by omega)
      have x4 : fH S' u = fH S u := ne _ (by omega)
      have x5 : fV S' u = 0 := eq
      unfold StOk
      rw [x0, x2, x3, x4, x5, ne (242 + 6 * u + 1) (by omega)]
      exact ⟨hou.1, hou.2.1, hou.2.2.1, hou.2.2.2.1, hou.2.2.2.2.1, Or.inl rfl⟩
    · exact hou.cg (fun w hw => ne _ (by omega))
  · refine ⟨ne _ (by omega), ?_, ne _ (by omega), ne _ (by omega), ne _ (by omega)⟩
    unfold fA
    rw [ne _ (by omega)]
/-- the one asked for, so far -/
def Vg (a : Int) (L : List Nat) (v : Int) : Prop := (∃ i : Nat, a = i ∧ i < L.length ∧ v = (L.getD i 0 : Nat)) ∨ (¬ (0 ≤ a ∧ a < L.length) ∧ v = -1)
set_option maxHeartbeats 1000000 in
theorem w_culpritM {a : Int} {zM : Hp} {S : Nat → Int} {K : Int → Hp → Prop} (hS : zM 1 = S) (h1 : SOk 60 S) (ha : rg a) (r0 : rg (zM 0 17)) (h0 : zM 0 17 ≠ 0) (ha1 : -1 ≤ a) (k : ∀ (v : Int) (z' : Hp), ((0 ≤ a ∧ Vg a ((lv S).filter (pc S)) v) ∨ (a < 0 ∧ v = (((lv S).filter (pc S)).length : Int))) → z' 1 = S → RefW z' S → (∀ j, j ≠ 17 → j ≠ 18 → j ≠ 19 → j ≠ 20 → j ≠ 21 → z' 0 j = zM 0 j) → (∀ c, c ≠ 0 → (c < 6 ∨ 12 < c) → z' c = zM c) → K v z') : cal_X10_culprit a zM K := by
  have hn := h1.n
  have ht := h1.t
  refine w_if ha (fun _ => w_if r0 (fun e => absurd e h0) (fun _ => lt_i (lt_i (lt_i ?_)))) (fun e => absurd ha1 e)
  have fl : ∀ k, ((lvK S k).filter (pc S)).length ≤ k := fun k => by
    have := filter_len (p := pc S) (lvK S k)
    have := lvK_len' S k
    omega
  refine LP3_for (sT S) (fun j b v z' => b = (((lvK S j).filter (pc S)).length : Int) ∧ Vg a ((lvK S j).filter (pc S)) v ∧ z' 1 = S ∧ (∀ j, j ≠ 17 → j ≠ 18 → j ≠ 19 → j ≠ 20 → j ≠ 21 → z' 0 j = zM 0 j) ∧ (∀ c, c ≠ 0 → (c < 6 ∨ 12 < c) → z' c = zM c)) 0 rfl (by omega) ⟨rfl, Or.inr ⟨fun q => absurd q.2 (by show ¬ a < ((0 : Nat) : Int); omega), rfl⟩, hS, fun _ _ _ _ _ _ => rfl, fun _ _ _ => rfl⟩ (fun X j b v z1 hj hI hX => ?_) (fun X b v z1 hI => ?_)
  · obtain ⟨i1, i2, i3, i4, i5⟩ := hI
    have ho := h1.2.2.2 j hj
    rw [i3, ht.1]
    refine w_if2 ⟨by omega, by omega⟩ ⟨by omega, by omega⟩ (fun e => absurd e (by omega)) (fun _ => w_X10_told (w := 5) (by omega) ?_)
    rw [i3]
    have v5 : S (242 + 6 * j + 5) = fV S j := rfl
    rw [v5]
    have hlv : lvK S (j + 1) = lvK S j ++ (if isLv S j then [j] else []) := lvK_succ S j
    rcases ho.2.2.2.2.2 with hv | hv
    · rw [if_neg (show ¬ isLv S j = true from fun q => by have : fV S j = 1 := of_decide_eq_true q; omega), List.append_nil] at hlv
      rw [hlv] at hX
      exact jn_i (fun J => J b v z1) (lt_i (hX _ _ _ ⟨i1, i2, i3, i4, i5⟩)) (fun J hJ => w_if (by rw [hv]; exact rg0) (fun _ => hJ) (fun e => absurd hv e))
    · rw [if_pos (show isLv S j = true from decide_eq_true hv)] at hlv
      rw [hlv] at hX
      have ib : inb (242 + 6 * (j : Int) + 5) 608 := ⟨by omega, by omega⟩
      have ad : (242 + 6 * (j : Int) + 5).toNat = 242 + 6 * j + 5 := by omega
      obtain ⟨fo1, fo2, fo3⟩ := flip_ok h1 hj
      have eS : kup z1 1 (242 + 6 * j + 5) 0 1 = (fun i => if i = 242 + 6 * j + 5 then 0 else S i) := by
        funext i
        by_cases g : i = 242 + 6 * j + 5
        · subst g; rw [kup_eq, if_pos rfl]
        · rw [pt_ne g, i3, if_neg g]
      have hlf : lv (fun i => if i = 242 + 6 * j + 5 then 0 else S i) = selK S j (sT S) := by
        unfold lv; rw [fo2]; exact flip_lv _
      have works : ∀ k : Hp → Prop, (∀ z3 : Hp, z3 1 = S → (pc S j = true ↔ z3 0 17 = 0) → rg (z3 0 17) → (∀ i, i ≠ 17 → i ≠ 18 → i ≠ 19 → i ≠ 20 → i ≠ 21 → z3 0 i = zM 0 i) → (∀ c, c ≠ 0 → (c < 6 ∨ 12 < c) → z3 c = zM c) → k z3) → cal_X10_works (kup z1 1 (242 + 6 * j + 5) 0) (fun z17 => inb ((242 + (6 * (j : Int))) + 5) 608 ∧ hp1 (kup z17 1 ((242 + (6 * (j : Int))) + 5).toNat 1) k) := fun k kk => by
        refine w_X10_works (M := 60) (by omega) eS fo1 (fun u hu _ => by rw [fo2] at hu; omega) (fun z2 hR f0 fc => ⟨ib, hp_i ?_⟩)
        rw [ad]
        have hcr := hR.cr
        rw [hlf] at hcr
        have hcr2 := (fo3 (selK S j (sT S))).sy.CRe (by rw [(fo3 []).n]; exact hn.2) hcr
        have r17 : 0 ≤ z2 0 17 ∧ z2 0 17 ≤ 4 := by
          obtain ⟨ab', cl', wh', r6, r7, r8, r9, hab', hlk', hm⟩ := hR
          obtain ⟨bd, _, _⟩ := hlk'.bd (by rw [(fo3 []).n]; exact hn.2)
          rcases hm with ⟨_, _, b, _⟩ | ⟨_, b, _⟩
          · omega
          · obtain ⟨q1, _, _⟩ := run_all (lv_allR (by decide : 60 ≤ 61) fo1 (fun t ht' _ => by rw [fo2] at ht'; omega)) 1000000
            have := q1.2.2.1
            have b2 : z2 0 17 = rCl (runR (allR (fun i => if i = 242 + 6 * j + 5 then 0 else S i) (gOf (fun i => if i = 242 + 6 * j + 5 then 0 else S i)) (lv (fun i => if i = 242 + 6 * j + 5 then 0 else S i))) 1000000 0 rSt0).2 := b.2.1
            rw [b2]
            omega
        refine kk _ ?_ ?_ ?_ (fun i a b c d e => ?_) (fun c c0 c1 => ?_)
        · funext i
          by_cases g : i = 242 + 6 * j + 5
          · subst g; rw [kup_eq]; exact hv.symm
          · rw [pt_ne g, fc 1 (by decide) (by omega), pt_ne g, i3]
        · rw [kup_c (by decide)]; exact pc_cr hn.2 hcr2
        · rw [kup_c (by decide)]; exact ⟨by omega, by omega⟩
        · rw [kup_c (by decide), f0 i a b c d e, kup_c (by decide)]; exact i4 i a b c d e
        · by_cases g : c = 1
          · subst g
            funext i
            by_cases g : i = 242 + 6 * j + 5
            · subst g; rw [kup_eq, hS]; exact hv.symm
            · rw [pt_ne g, fc 1 (by decide) (by omega), pt_ne g, i3, hS]
          · rw [← i5 c c0 c1]
            funext i
            rw [kup_c g, fc c c0 c1, kup_c g]
      have fl1 := fl j
      rw [ad]
      refine jn_i (fun J => ∀ b' v' z', b' = (((lvK S j ++ [j]).filter (pc S)).length : Int) → Vg a ((lvK S j ++ [j]).filter (pc S)) v' → z' 1 = S → (∀ i, i ≠ 17 → i ≠ 18 → i ≠ 19 → i ≠ 20 → i ≠ 21 → z' 0 i = zM 0 i) → (∀ c, c ≠ 0 → (c < 6 ∨ 12 < c) → z' c = zM c) → J b' v' z') (fun b' v' z' j1 j2 j3 j4 j5 => lt_i (hX _ _ _ ⟨j1, j2, j3, j4, j5⟩)) (fun J hJ => w_if (by rw [hv]; exact rg1) (fun e => absurd (hv.symm.trans e) (by decide)) (fun _ => ⟨ib, hp_i (works _ (fun z3 e1 e2 e3 e4 e5 => w_if e3 (fun c => ?_) (fun c => ?_)))⟩))
      · have hfl : (lvK S j ++ [j]).filter (pc S) = (lvK S j).filter (pc S) ++ [j] := by
          rw [List.filter_append, List.filter_cons_of_pos (e2.mpr c)]; rfl
        rw [hfl] at hJ
        generalize (lvK S j).filter (pc S) = L at *
        have rb : rg b := ⟨by omega, by omega⟩
        have len1 : (((L ++ [j]).length : Nat) : Int) = (L.length : Int) + 1 := by rw [List.length_append, List.length_singleton]; omega
        by_cases g : b = a
        · refine jn_i (fun J => J (j : Int)) (lt_i (hJ _ _ _ (by rw [len1, i1]) (Or.inl ⟨L.length, by rw [← g]; exact i1, by rw [List.length_append, List.length_singleton]; omega, by rw [getD_lastN]⟩) e1 e4 e5)) (fun J hJ => w_if2 rb ha (fun _ => lt_i hJ) (fun e => absurd g e))
        · refine jn_i (fun J => J v) (lt_i (hJ _ _ _ (by rw [len1, i1]) ?_ e1 e4 e5)) (fun J hJ => w_if2 rb ha (fun e => absurd e g) (fun _ => lt_i hJ))
          rcases i2 with ⟨i, x1, x2, x3⟩ | ⟨x1, x2⟩
          · exact Or.inl ⟨i, x1, by omega, by rw [getD_snocN x2]; exact x3⟩
          · exact Or.inr ⟨by omega, x2⟩
      · have hfl : (lvK S j ++ [j]).filter (pc S) = (lvK S j).filter (pc S) := by
          rw [List.filter_append, List.filter_cons_of_neg (fun q => c (e2.mp q))]; simp
        rw [hfl] at hJ
        exact hJ _ _ _ i1 i2 e1 e4 e5
  · obtain ⟨i1, i2, i3, i4, i5⟩ := hI
    rw [i3, ht.1]
    refine w_if2 ⟨by omega, by omega⟩ ⟨by omega, by omega⟩ (fun _ => ?_) (fun e => absurd (Int.le_refl _) e)
    refine w_X10_works (M := 60) (by omega) i3 h1 (fun u hu _ => by omega) (fun z2 hR f0 fc => ?_)
    have x1 : z2 1 = S := by rw [fc 1 (by decide) (by omega)]; exact i3
    have x0 : ∀ j, j ≠ 17 → j ≠ 18 → j ≠ 19 → j ≠ 20 → j ≠ 21 → z2 0 j = zM 0 j := fun j a b c d e => by rw [f0 j a b c d e, i4 j a b c d e]
    have xc : ∀ c, c ≠ 0 → (c < 6 ∨ 12 < c) → z2 c = zM c := fun c a b => by rw [fc c a b, i5 c a b]
    exact w_if ha (fun e => k _ _ (Or.inl ⟨e, i2⟩) x1 hR x0 xc) (fun e => k _ _ (Or.inr ⟨by omega, i1⟩) x1 hR x0 xc)
theorem inv_op19 : op19 Inv := by
  intro a1 zC zM ha h
  have h1 := h.1
  have hn := h1.n
  have ht := h1.t
  refine w_if ha (fun c1 => ?_) (fun c1 => w_if ha (fun e => absurd e c1) (fun _ => ⟨rfl, h⟩))
  refine w_settle h (fun z1 h' h8 st _ => ?_)
  obtain ⟨ab, st, hab, hF, _, _, ⟨hC4, hC5, _⟩, _⟩ := st
  have rC : rg (zM 0 17) := ⟨by omega, by omega⟩
  rw [hC4]
  refine w_if rC (fun c0 => w_if ha (fun _ => w_if rC (fun _ => ⟨rfl, h'⟩) (fun e => absurd c0 e)) (fun e => absurd c1 e)) (fun c0 => ?_)
  refine w_settleCulprits h' h8 (fun z2 hI k10 k132 => ?_)
  have ll : ((lv (zM 1)).filter (pc (zM 1))).length ≤ 60 := by
    have := filter_len (p := pc (zM 1)) (lv (zM 1))
    have := lvK_len' (zM 1) (sT (zM 1))
    unfold lv at *
    omega
  have ref : ∀ v : Int, (a1 < 0 → v = (((lv (zM 1)).filter (pc (zM 1))).length : Int)) → (0 ≤ a1 → Vg a1 ((lv (zM 1)).filter (pc (zM 1))) v) → cal_X10_culprit a1 zM (fun r' zM' => v = r' ∧ Inv z2 zM') := fun v v0 v1 => by
    refine w_culpritM rfl h1 ha rC c0 c1 (fun u z' hu e1 hR e0 ec => ⟨?_, ?_⟩)
    · rcases hu with ⟨u1, u2⟩ | ⟨u1, u2⟩
      · rcases v1 u1 with ⟨i, p1, p2, p3⟩ | ⟨p1, p2⟩ <;> rcases u2 with ⟨i', q1, q2, q3⟩ | ⟨q1, q2⟩
        · have : i = i' := by omega
          subst this
          rw [p3, q3]
        · exact absurd ⟨u1, by omega⟩ q1
        · exact absurd ⟨u1, by omega⟩ p1
        · rw [p2, q2]
      · rw [v0 u1, u2]
    · exact hI.over (fun _ _ _ _ => rfl) (fun _ _ _ _ _ => rfl) (fun j _ => by rw [e1]) (by rw [e1]; exact hR) (fun j hj => e0 j (by omega) (by omega) (by omega) (by omega) (by omega)) (fun c hc => ec c (by omega) (by omega))
  generalize (lv (zM 1)).filter (pc (zM 1)) = L at *
  rw [k10]
  refine w_if ha (fun e => ref _ (fun _ => rfl) (fun q => absurd q (by omega))) (fun e => w_if2 ha ⟨by omega, by omega⟩ (fun g => ref _ (fun q => absurd q (by omega)) (fun _ => Or.inr ⟨by omega, rfl⟩)) (fun g => ⟨⟨by omega, by omega⟩, ?_⟩))
  obtain ⟨i, rfl⟩ : ∃ i : Nat, a1 = i := ⟨a1.toNat, by omega⟩
  rw [Int.toNat_natCast, k132 i (by omega)]
  exact ref _ (fun q => absurd q (by omega)) (fun _ => Or.inl ⟨i, rfl, by omega, rfl⟩)
