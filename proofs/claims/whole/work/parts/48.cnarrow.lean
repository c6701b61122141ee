/-! the class's rounds -/
def CFr9 (t : Nat) (z z' : Hp) : Prop := (∀ j, j ≠ 9 → j ≠ 10 → j ≠ 11 → z' t j = z t j) ∧ ∀ c, c ≠ t → c ≠ t + 1 → c ≠ t + 2 → c ≠ t + 3 → z' c = z c
theorem CFr9.tr {t : Nat} {z z' z'' : Hp} (h : CFr9 t z z') (h' : CFr9 t z' z'') : CFr9 t z z'' := ⟨fun j a b c => by rw [h'.1 j a b c, h.1 j a b c], fun c h1 h2 h3 h4 => by rw [h'.2 c h1 h2 h3 h4, h.2 c h1 h2 h3 h4]⟩
theorem CFr.nine {t : Nat} {z z' : Hp} (h : CFr t z z') : CFr9 t z z' := ⟨fun j _ b c => h.1 j b c, h.2⟩
theorem foldl_wh : ∀ (l : List Rl) (s : RSt), WhOk s → (∀ r ∈ l, RlOk r) → WhOk (l.foldl apl s) := fun l s h hl => foldl_inv l s h (fun _ r hr h => apl_wh (hl r hr) h)
theorem take_snoc' {α : Type} {l : List α} {j : Nat} {r : α} (h : l[j]? = some r) : l.take (j + 1) = l.take j ++ [r] := by
  rw [List.take_succ, h]; rfl
theorem w_X3_narrow {t F : Nat} {z : Hp} {K : Int → Hp → Prop} {l : List Rl} {s : RSt} (hF : 1 ≤ F) (hF2 : F ≤ 1000000) (hl : ∀ r ∈ l, RlOk r ∧ 0 ≤ r.2.2.2.2 ∧ -1 ≤ r.2.1) (hlen : l.length ≤ 335) (h8 : z t 8 = (l.length : Int)) (hru : ∀ k r, l[k]? = some r → RuAt z t k r) (h9 : z t 9 = 0) (hs : ClsR z t s) (hb : RB s) (hcl : rCl s = 0) (kk : ∀ (v : Int) (z' : Hp), ClsR z' t (runR l F 0 s).2 → RB (runR l F 0 s).2 → WhOk (runR l F 0 s).2 → z' t 9 = (runR l F 0 s).1 → ((v = 1 ∧ rCl (runR l F 0 s).2 = 0 ∧ rCh (runR l F 0 s).2 = 0) ∨ (v = 0 ∧ ¬ (rCl (runR l F 0 s).2 = 0 ∧ rCh (runR l F 0 s).2 = 0))) → CFr9 t z z' → K v z') : cal_X3_narrow t F z K := by
  have hlo : ∀ r ∈ l, RlOk r := fun r hr => (hl r hr).1
  show LP1 _ 0 z
  refine LP1_for F (fun j z' => ∃ s' : RSt, ClsR z' t s' ∧ RB s' ∧ rCl s' = 0 ∧ (j = 0 ∨ rCh s' ≠ 0) ∧ runR l (F - j) j s' = runR l F 0 s ∧ z' t 9 = (j : Int) ∧ CFr9 t z z') 0 rfl (by omega) ⟨s, hs, hb, hcl, Or.inl rfl, rfl, h9, ⟨fun _ _ _ _ => rfl, fun _ _ _ _ _ => rfl⟩⟩ (fun X j z1 hj hI hX => ?_) (fun X z1 hI => ?_)
  · obtain ⟨s', i1, i2, i3, i4, i5, i6, i7⟩ := hI
    refine w_if2 ⟨by omega, by omega⟩ ⟨by omega, by omega⟩ (fun e => absurd e (by omega)) (fun _ => hp_i (hp_i (lt_i ?_)))
    have g9 : (kup (kup z1 t 9 (z1 t 9 + 1)) t 11 0) t 9 = ((j + 1 : Nat) : Int) := by rw [kup_n (fun q => absurd q.2 (by decide)), kup_eq, i6]; omega
    have gs : ClsR (kup (kup z1 t 9 (z1 t 9 + 1)) t 11 0) t (quiet s') := ⟨fun e he => by rw [kup_c (by omega), kup_c (by omega), kup_c (by omega), kup_c (by omega), kup_c (by omega), kup_c (by omega)]; exact i1.1 e he, by rw [kup_n (fun q => absurd q.2 (by decide)), kup_n (fun q => absurd q.2 (by decide))]; exact i1.2.1, kup_eq⟩
    have gf : CFr9 t z (kup (kup z1 t 9 (z1 t 9 + 1)) t 11 0) := i7.tr ⟨fun j a b c => by rw [kup_n (fun q => c q.2), kup_n (fun q => a q.2)], fun c c0 _ _ _ => by funext q; rw [kup_c c0, kup_c c0]⟩
    generalize kup (kup z1 t 9 (z1 t 9 + 1)) t 11 0 = z2 at *
    have w0 : WhOk (quiet s') := fun q => absurd i3 q
    have hrun : runR l F 0 s = (if rCl (rnd l s') ≠ 0 ∨ rCh (rnd l s') = 0 then (j + 1, rnd l s') else runR l (F - (j + 1)) (j + 1) (rnd l s')) := by
      rw [← i5, show F - j = (F - (j + 1)) + 1 by omega, runR]
    have cont : ∀ z12 : Hp, ClsR z12 t (rnd l s') → z12 t 9 = ((j + 1 : Nat) : Int) → CFr9 t z z12 → rg (z12 t 10) ∧ (if (z12 t 10) < 0 then (rg (z12 t 11) ∧ if (z12 t 11) = 0 then (K 1 z12) else (lt1 ((j : Int) + 1) (fun v13 => X v13 z12))) else (K 0 z12)) := fun z12 q1 q2 q3 => by
      have rb := rnd_RB i2 hlo
      have wh := foldl_wh l (quiet s') w0 hlo
      have ch : C01 (rnd l s') := rnd_ch
      have r11 : rg (z12 t 11) := by rw [q1.2.2]; rcases ch with q | q <;> rw [q] <;> constructor <;> omega
      rcases q1.cl wh with ⟨c, q⟩ | ⟨c, q, q'⟩
      · refine w_if ⟨by omega, by omega⟩ (fun _ => w_if r11 (fun e => ?_) (fun e => ?_)) (fun e => absurd e (by omega))
        · have c2 : rCh (rnd l s') = 0 := by rw [← q1.2.2]; exact e
          rw [if_pos (Or.inr c2)] at hrun
          exact kk 1 z12 (by rw [hrun]; exact q1) (by rw [hrun]; exact rb) (by rw [hrun]; exact wh) (by rw [hrun]; exact q2) (Or.inl ⟨rfl, by rw [hrun]; exact c, by rw [hrun]; exact c2⟩) q3
        · have c2 : rCh (rnd l s') ≠ 0 := by rw [← q1.2.2]; exact e
          rw [if_neg (fun q => q.elim (fun q => q c) c2)] at hrun
          exact lt_i (hX z12 ⟨_, q1, rb, c, Or.inr c2, hrun.symm, by rw [q2], q3⟩)
      · rw [if_pos (Or.inl c)] at hrun
        exact w_if ⟨by omega, by omega⟩ (fun e => absurd e (by omega)) (fun _ => kk 0 z12 (by rw [hrun]; exact q1) (by rw [hrun]; exact rb) (by rw [hrun]; exact wh) (by rw [hrun]; exact q2) (Or.inr ⟨rfl, fun q => c (by rw [hrun] at q; exact q.1)⟩) q3)
    refine LP1_for l.length (fun i z' => ClsR z' t ((l.take i).foldl apl (quiet s')) ∧ z' t 9 = ((j + 1 : Nat) : Int) ∧ CFr9 t z z') 0 rfl (by omega) ⟨gs, g9, gf⟩ (fun Y i z3 hi hI hY => ?_) (fun Y z3 hI => ?_)
    · obtain ⟨k1, k2, k3⟩ := hI
      have tk : ∀ r ∈ l.take i, RlOk r := fun r hr => hlo r (List.mem_of_mem_take hr)
      have wh := foldl_wh (l.take i) (quiet s') w0 tk
      have rb := foldl_RB (l.take i) (quiet s') (quiet_RB i2) tk
      have e8 : z3 t 8 = (l.length : Int) := by rw [k3.1 8 (by decide) (by decide) (by decide)]; exact h8
      refine jn_i (fun J => ∀ z' : Hp, ClsR z' t (rnd l s') → z' t 9 = ((j + 1 : Nat) : Int) → CFr9 t z z' → J z') cont (fun J hJ => ?_)
      refine w_if2 ⟨by omega, by omega⟩ (by rw [e8]; constructor <;> omega) (fun e => absurd e (by rw [e8]; omega)) (fun _ => ?_)
      rcases k1.cl wh with ⟨c, q⟩ | ⟨c, q, q'⟩
      · refine w_if ⟨by omega, by omega⟩ (fun e => absurd e (by omega)) (fun _ => ?_)
        have hr : l[i]? = some (l[i]) := List.getElem?_eq_getElem hi
        have hm := List.getElem_mem hi
        generalize l[i] = r at *
        obtain ⟨o1, o2, o3⟩ := hl r hm
        refine w_X3_apply (by omega) o1 o2 o3 ((hru i r hr).to k3.2) k1 rb wh (fun z4 p1 p2 => lt_i (hY z4 ⟨?_, ?_, k3.tr p2.nine⟩))
        · rw [take_snoc' hr, List.foldl_append]; exact p1
        · rw [p2.1 9 (by decide) (by decide)]; exact k2
      · refine w_if ⟨by omega, by omega⟩ (fun _ => hJ z3 ?_ k2 k3) (fun e => absurd e (by omega))
        have : rnd l s' = (l.take i).foldl apl (quiet s') := by
          unfold rnd
          conv => lhs; rw [← List.take_append_drop i l, List.foldl_append]
          exact foldl_cl _ _ c
        rw [this]; exact k1
    · obtain ⟨k1, k2, k3⟩ := hI
      rw [List.take_length] at k1
      have e8 : z3 t 8 = (l.length : Int) := by rw [k3.1 8 (by decide) (by decide) (by decide)]; exact h8
      refine jn_i (fun J => ∀ z' : Hp, ClsR z' t (rnd l s') → z' t 9 = ((j + 1 : Nat) : Int) → CFr9 t z z' → J z') cont (fun J hJ => ?_)
      exact w_if2 ⟨by omega, by omega⟩ (by rw [e8]; constructor <;> omega) (fun _ => hJ z3 k1 k2 k3) (fun e => absurd e (by rw [e8]; omega))
  · obtain ⟨s', i1, i2, i3, i4, i5, i6, i7⟩ := hI
    have c2 : rCh s' ≠ 0 := i4.elim (fun q => absurd q (by omega)) id
    rw [Nat.sub_self, runR] at i5
    refine w_if2 ⟨by omega, by omega⟩ ⟨by omega, by omega⟩ (fun _ => kk 0 z1 (by rw [← i5]; exact i1) (by rw [← i5]; exact i2) (by rw [← i5]; exact fun q => absurd i3 q) (by rw [← i5]; exact i6) (Or.inr ⟨rfl, fun q => c2 (by rw [← i5] at q; exact q.2)⟩) i7) (fun e => absurd e (by omega))
