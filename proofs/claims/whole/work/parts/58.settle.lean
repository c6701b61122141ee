/-! the class settles; then both tell the same -/
def WhZ (s : RSt) : Prop := rCl s = 0 → rWh s = -5
theorem nar_whz {ru : Int} {e : Nat} {v b : Int} {s : RSt} (h : WhZ s) : WhZ (nar ru e v b s) := by
  unfold nar
  split
  · exact h
  · next c =>
    split
    · exact h
    · intro hc
      have hc : (if fup (rE s) e v (2 * (e / 2) + 1) < fup (rE s) e v (2 * (e / 2)) then (4 : Int) else 0) = 0 := hc
      show (if fup (rE s) e v (2 * (e / 2) + 1) < fup (rE s) e v (2 * (e / 2)) then ((e / 2 : Nat) : Int) else rWh s) = -5
      by_cases q : fup (rE s) e v (2 * (e / 2) + 1) < fup (rE s) e v (2 * (e / 2))
      · rw [if_pos q] at hc; exact absurd hc (by decide)
      · rw [if_neg q]; exact h (Decidable.byContradiction c)
theorem apl_whz {s : RSt} {r : Rl} (h : WhZ s) : WhZ (apl s r) := by
  unfold apl
  split
  · exact nar_whz (nar_whz h)
  · exact nar_whz (nar_whz (nar_whz (nar_whz h)))
theorem run_whz (l : List Rl) (F : Nat) : WhZ (runR l F 0 rSt0).2 := runR_inv (I := WhZ) (fun s h => foldl_inv (I := WhZ) l (quiet s) h (fun _ _ _ h => apl_whz h)) F 0 rSt0 (fun _ => rfl)
theorem LkIs'.cg3 {n : Nat} {P1 P2 P3 P3' : Nat → Prop} {cl wh : Int} (h : LkIs' n P1 P2 P3 cl wh) (e : ∀ p, p < n → (P3 p ↔ P3' p)) : LkIs' n P1 P2 P3' cl wh := by
  rcases h with ⟨h0, h1, h2, h3⟩ | ⟨h0, h1, p, h2, h3, h4, h5⟩ | h
  · exact Or.inl ⟨h0, h1, h2, fun q hq r => h3 q hq ((e q hq).mpr r)⟩
  · exact Or.inr (Or.inl ⟨h0, h1, p, h2, h3, (e p h2).mp h4, fun q hq r => h5 q hq ((e q (by omega)).mpr r)⟩)
  · exact Or.inr (Or.inr h)
theorem LkS.whb {c : Int} {P : Nat → Prop} {Q : Prop} {j : Nat} {cl wh : Int} {old : Int → Int → Prop} (hj : j ≤ 30) (h : LkS c P Q j cl wh old) (ho : ∀ cl wh, old cl wh → -5 ≤ wh ∧ wh < 30) : -5 ≤ wh ∧ wh < 30 := by
  rcases h with ⟨_, h0, _⟩ | ⟨_, _, p, h1, h2, _⟩ | ⟨_, h0⟩
  · omega
  · omega
  · exact ho _ _ h0
theorem LkIs'.bd {n : Nat} {P1 P2 P3 : Nat → Prop} {cl wh : Int} (hn : n ≤ 30) (h : LkIs' n P1 P2 P3 cl wh) : (0 ≤ cl ∧ cl ≤ 3) ∧ (-5 ≤ wh ∧ wh < 30) ∧ (cl = 0 → wh = -5) :=
  ⟨LkS.bd h (by decide) (fun _ _ r => LkS.bd r (by decide) (fun _ _ r => LkS.bd r (by decide) (fun _ _ r => r.elim))), LkS.whb hn h (fun _ _ r => LkS.whb hn r (fun _ _ r => LkS.whb hn r (fun _ _ r => r.elim))), fun e => by subst e; exact (LkS.cl0 (by decide) h).1⟩
def EndE (zC zM : Hp) (st : RSt) : Prop := (∀ e, e < 240 → zM 10 e = rE st e ∧ zM 11 e = rR st e ∧ zM 12 e = rF st e ∧ zC 100 e = rE st e ∧ zC 101 e = en (rR st e) ∧ zC 102 e = en (rF st e)) ∧ RB st ∧ ROk st
def ClE (zC zM : Hp) : Prop := zC 86 4 = zM 0 17 ∧ (0 ≤ zM 0 17 ∧ zM 0 17 ≤ 4) ∧ (zM 0 17 = 4 → zC 99 10 = zM 0 18 ∧ 0 ≤ zM 0 18 ∧ zM 0 18 < 120) ∧ (zM 0 17 ≠ 4 → zC 86 5 = zM 0 18 ∧ -5 ≤ zM 0 18 ∧ zM 0 18 < 30 ∧ zC 99 10 = -1)
def Stl (zC zM : Hp) (S : Nat → Int) : Prop := ∃ (ab : Nat → Nat) (st : RSt), IsAb (sN S) (prOf S) ab ∧ FolkIs zC 88 S (lv S) ab ∧ (Row zM 6 (gOf S) ∧ Row zM 7 (moOf S) ∧ Row zM 8 (faOf S) ∧ Row zM 9 ab) ∧ EndE zC zM st ∧ ClE zC zM ∧ zC 99 9 = zM 0 19
theorem lv_len (S : Nat → Int) (k : Nat) : (lvK S k).length ≤ k := by
  unfold lvK
  exact Nat.le_trans (List.length_filter_le ..) (by rw [List.length_range]; exact Nat.le_refl _)
theorem lv_allR {M : Nat} {S : Nat → Int} (hM : M ≤ 61) (h : SOk M S) (h4 : ∀ t, t < sT S → fS S t = 4 → t < 60) : ∀ r ∈ allR S (gOf S) (lv S), RlOk r ∧ 0 ≤ r.2.2.2.2 ∧ r.2.2.2.2 < 160 := fun r hr => by
  have ht := h.t
  have a := allR_ok (n := sN S) h.n.2 rfl (gOf_good h) (l := lv S) (fun t ht => ⟨lv_ok h (Nat.le_refl _) t ht, h4 t (lvK_lt ht).1⟩) r hr
  exact ⟨a.1, a.2.1, allR_ru h.n.2 (fun t ht' => by have := (lvK_lt ht').1; omega) r hr⟩
theorem stl_of {zC zM : Hp} {S : Nat → Int} (h : SOk 60 S) (hC : ClsW zC 86 S (lv S) 1000000) (hM : RefW zM S) : Stl zC zM S := by
  have hn := h.n.2
  have ht := h.t
  obtain ⟨_, _, ab, cl, wh, hF, hlk, h5, hc⟩ := hC
  obtain ⟨ab', cl', wh', r6, r7, r8, r9, hab', hlk', hm⟩ := hM
  have hab : IsAb (sN S) (prOf S) ab := hF.1
  have eab : ∀ p, p < 30 → ab' p = ab p := fun p hp => IsAb.eq hab' hab hp
  have hlk2 : LkIs' (sN S) (P1f S (lv S)) (P2f S (lv S)) (P3f ab) cl' wh' := LkIs'.cg3 hlk' (fun p hp => by unfold P3f; rw [eab p (by omega)])
  obtain ⟨e1, e2⟩ := hlk.uq hlk2
  subst e1 e2
  obtain ⟨b1, b2, b3⟩ := hlk.bd hn
  have r9' : Row zM 9 ab := fun p hp => by rw [r9 p hp, eab p hp]
  rcases hc with ⟨c0, c1, ⟨v, c2⟩, c3⟩ | ⟨c0, c2, c3, c4⟩ <;> rcases hm with ⟨m0, m1, m2, m3, m4⟩ | ⟨m0, m1, m2⟩
  · refine ⟨ab, rSt0, hab, hF, ⟨r6, r7, r8, r9'⟩, ⟨fun e he => ⟨(m1 e he).1, (m1 e he).2.1, (m1 e he).2.2, (c2.1 e he).1, (c2.1 e he).2.1, (c2.1 e he).2.2⟩, rSt0_RB, rSt0_rok⟩, ⟨by rw [c1, m2], by rw [m2]; omega, fun q => by rw [m2] at q; omega, fun _ => by rw [m3]; exact ⟨h5, b2.1, b2.2, c2.2.1.trans (if_pos rfl)⟩⟩, by rw [m4]; exact c3⟩
  · exact absurd m0 c0
  · exact absurd c0 m0
  · have hall := lv_allR (by decide : 60 ≤ 61) h (fun t ht' _ => by omega)
    obtain ⟨q1, q2, q3⟩ := run_all hall 1000000
    have qs := run_stp (F := 1000000) (fun r hr => (hall r hr).1) rSt0_RB rSt0_wid
    have qz := run_whz (allR S (gOf S) (lv S)) 1000000
    have m1 : RefR zM (runR (allR S (gOf S) (lv S)) 1000000 0 rSt0).2 := m1
    have m2 : zM 0 19 = (runR (allR S (gOf S) (lv S)) 1000000 0 rSt0).1 := m2
    have c2 : ClsR zC 99 (runR (allR S (gOf S) (lv S)) 1000000 0 rSt0).2 := c2
    have c3 : zC 99 9 = (runR (allR S (gOf S) (lv S)) 1000000 0 rSt0).1 := c3
    have c4 : ((zC 86 4 = 0 ∧ rCl (runR (allR S (gOf S) (lv S)) 1000000 0 rSt0).2 = 0 ∧ rCh (runR (allR S (gOf S) (lv S)) 1000000 0 rSt0).2 = 0) ∨ (zC 86 4 = 4 ∧ ¬ (rCl (runR (allR S (gOf S) (lv S)) 1000000 0 rSt0).2 = 0 ∧ rCh (runR (allR S (gOf S) (lv S)) 1000000 0 rSt0).2 = 0))) := c4
    generalize runR (allR S (gOf S) (lv S)) 1000000 0 rSt0 = res at *
    refine ⟨ab, res.2, hab, hF, ⟨r6, r7, r8, r9'⟩, ⟨fun e he => ⟨(m1.1 e he).1, (m1.1 e he).2.1, (m1.1 e he).2.2, (c2.1 e he).1, (c2.1 e he).2.1, (c2.1 e he).2.2⟩, q1, q3⟩, ?_, by rw [c3, m2]⟩
    have k17 := m1.2.1
    have k18 := m1.2.2.1
    have k10 := c2.2.1
    unfold ClE
    rw [k17, k18, k10]
    rcases q1.2.2.1 with z | z
    · have hch : rCh res.2 = 0 := qs.resolve_left (fun q => q z)
      rcases c4 with ⟨a, _⟩ | ⟨_, a⟩
      · rw [z, a]
        refine ⟨rfl, by decide, fun q => absurd q (by decide), fun _ => ?_⟩
        rw [qz z]
        exact ⟨by rw [h5]; exact b3 c0, by decide, by decide, if_pos rfl⟩
      · exact absurd ⟨z, hch⟩ a
    · rcases c4 with ⟨_, a, _⟩ | ⟨a, _⟩
      · rw [z] at a; exact absurd a (by decide)
      · rw [z, a]
        refine ⟨rfl, by decide, fun _ => ?_, fun q => absurd rfl q⟩
        rw [if_neg (by decide)]
        exact ⟨rfl, q2 (by rw [z]; decide)⟩
theorem Inv.cls {zC zM z' : Hp} (h : Inv zC zM) (e : ∀ c, (1 ≤ c ∧ c ≤ 84) ∨ 138 ≤ c → z' c = zC c) (e0 : z' 0 2 = zC 0 2) (hst : ISt z' (zM 1)) : Inv z' zM := by
  obtain ⟨h1, h2, h3, h4, h5, h6, h7, _⟩ := h
  refine ⟨h1, h2.to h1.n.2 (fun c a b => e c (by omega)), ?_, ?_, ?_, ?_, h7, hst⟩
  · rcases h3 with ⟨a, b⟩ | ⟨a, b, c, d⟩
    · exact Or.inl ⟨by rw [e0]; exact a, b⟩
    · exact Or.inr ⟨by rw [e0]; exact a, b, c, d.to c.n.2 (fun c a b => e c (by omega))⟩
  · obtain ⟨n, a, b, c, d⟩ := h4
    exact ⟨n, a, b, by rw [e 81 (by omega)]; exact c, by rw [e 82 (by omega)]; exact d⟩
  · obtain ⟨n, a, b, c, d⟩ := h5
    exact ⟨n, a, b, by rw [e 83 (by omega)]; exact c, by rw [e 84 (by omega)]; exact d⟩
  · intro l hl
    rw [e 142 (by omega), e (138 + l) (by omega)]
    exact h6 l hl
theorem ISt.to {z z' : Hp} {S : Nat → Int} (h : ISt z S) (e : ∀ c, (86 ≤ c ∧ c ≤ 108) ∨ c = 132 → z' c = z c) (e0 : z' 0 8 = z 0 8 ∧ z' 0 10 = z 0 10 ∧ z' 0 11 = z 0 11) : ISt z' S := by
  unfold ISt
  rw [e0.1, e0.2.2]
  rcases h with h | ⟨h1, h2, ⟨L, h3, h4⟩, h5⟩
  · exact Or.inl h
  · refine Or.inr ⟨h1, h2.to (fun c a b => e c (by omega)), ⟨L, by rw [e 100 (by omega)]; exact h3, fun j hj => by rw [e 108 (by omega)]; exact h4 j hj⟩, ?_⟩
    rcases h5 with h5 | ⟨h5, p, cs, q1, q2, q3, q4⟩
    · exact Or.inl h5
    · exact Or.inr ⟨h5, p, cs, q1, q2, by rw [e0.2.1]; exact q3, fun j hj => by rw [e 132 (by omega)]; exact q4 j hj⟩
/-- what is scratch of the class -/
theorem Inv.scr {zC zM z' : Hp} (h : Inv zC zM) (e : ∀ c, c ≠ 85 → (c < 109 ∨ 131 < c) → (c < 133 ∨ 135 < c) → z' c = zC c) : Inv z' zM :=
  h.cls (fun c hc => e c (by omega) (by omega) (by omega)) (by rw [e 0 (by omega) (by omega) (by omega)]) (h.2.2.2.2.2.2.2.to (fun c hc => e c (by omega) (by omega) (by omega)) (by rw [e 0 (by omega) (by omega) (by omega)]; exact ⟨rfl, rfl, rfl⟩))
theorem selK_neg (S : Nat → Int) (k : Nat) : selK S (-1) k = lvK S k := by
  unfold selK
  rw [List.filter_eq_self]
  exact fun a _ => decide_eq_true (by omega)
theorem ClsW.yr {z : Hp} {t F : Nat} {S : Nat → Int} {l : List Nat} (hall : ∀ r ∈ allR S (gL S l) l, RlOk r ∧ 0 ≤ r.2.2.2.2 ∧ r.2.2.2.2 < 160) (h : ClsW z t S l F) : ∀ e, e < 240 → rg (z (t + 13 + 1) e) := by
  obtain ⟨_, _, ab, cl, wh, _, _, _, hc⟩ := h
  intro e he
  rcases hc with ⟨_, _, ⟨v, c2⟩, _⟩ | ⟨_, c2, _, _⟩
  · rw [(c2.1 e he).1]
    have := rSt0_RB.1 e
    have e2 : rE (cSt v) e = rE rSt0 e := rfl
    rw [e2]
    constructor <;> omega
  · rw [(c2.1 e he).1]
    have := (run_all hall F).1.1 e
    constructor <;> omega
theorem w_settle {zC zM : Hp} {K : Hp → Prop} (h : Inv zC zM) (k : ∀ z' : Hp, Inv z' zM → z' 0 8 = 1 → Stl z' zM (zM 1) → (∀ c, c < 86 ∨ 108 < c → c ≠ 0 → z' c = zC c) → K z') : cal_X9_settle zC K := by
  have hh := h
  obtain ⟨h1, h2, _, _, _, _, h7, h8⟩ := h
  have hn := h1.n
  have ht := h1.t
  unfold cal_X9_settle
  rcases h8 with ⟨a, b⟩ | ⟨a, b, c, d⟩
  · have b1 : zC 1 1 = ((sT (zM 1) : Nat) : Int) := by rw [h2.2.1]; exact ht.1
    rw [a, b1]
    refine ⟨rg0, ?_⟩
    rw [if_pos rfl]
    refine w_X8_work (t := 86) (r1 := 1) (m := sT (zM 1)) (w := -1) (F := 1000000) (S := zM 1) (by omega) (by omega) ⟨by decide, by decide⟩ ⟨by omega, by omega⟩ hn (fun t ht' => ⟨h1.2.2.2 t ht', fun _ => by omega⟩) h2.2.2.1 h2.1 (fun p hp => ⟨(h2.2.2.2.2.1 p hp).1, (h1.2.2.1 p hp).2⟩) (fun t ht' => h2.2.2.2.1 t ht') (fun z1 hw hf => ?_)
    rw [selK_neg] at hw
    have hw : ClsW z1 86 (zM 1) (lv (zM 1)) 1000000 := hw
    have hall := lv_allR (by decide : 60 ≤ 61) h1 (fun t ht' _ => by omega)
    have hal : z1 88 1 = (allK (gOf (zM 1)) (sN (zM 1)) : Nat) := by
      obtain ⟨_, _, ab, cl, wh, hF, _⟩ := hw
      exact hF.2.2.1
    refine w_X8_sortPeople (t := 86) (E := z1 100) hn.2 (gOf_good h1) hal (fun e _ => rfl) (ClsW.yr (t := 86) hall hw) (fun L z2 hL hH hf2 => hp_i ?_)
    have e2 : ∀ c, c < 86 ∨ 108 < c → c ≠ 0 → kup z2 0 8 1 c = zC c := fun c q c0 => by funext i; rw [kup_c c0, hf2 c (by omega), hf c (by omega)]
    have e3 : ∀ c, 86 ≤ c → c ≤ 107 → kup z2 0 8 1 c = z1 c := fun c p q => by funext i; rw [kup_c (by omega), hf2 c (by omega)]
    have hw' : ClsW (kup z2 0 8 1) 86 (zM 1) (lv (zM 1)) 1000000 := hw.to (fun c p q => e3 c p (by omega))
    have s0 : ∀ j, j ≠ 8 → kup z2 0 8 1 0 j = zC 0 j := fun j hj => by rw [kup_n (fun q => hj q.2), hf2 0 (by omega), hf 0 (by omega)]
    have hst : ISt (kup z2 0 8 1) (zM 1) := Or.inr ⟨kup_eq, hw', ⟨L, by rw [e3 100 (by omega) (by omega)]; exact hL, fun j hj => by rw [kup_c (by omega)]; exact hH j hj⟩, Or.inl (by rw [s0 11 (by decide)]; exact b)⟩
    exact k _ (hh.cls (fun c hc => e2 c (by omega) (by omega)) (s0 2 (by decide)) hst) kup_eq (stl_of h1 hw' h7) e2
  · rw [a]
    refine ⟨rg1, ?_⟩
    rw [if_neg (by decide)]
    exact k zC hh a (stl_of h1 b h7) (fun _ _ _ => rfl)
