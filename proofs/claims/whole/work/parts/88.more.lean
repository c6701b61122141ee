/-! one statement more, for a thought -/
def Ag (S S' : Nat → Int) : Prop := ∀ j, j < 242 + 6 * sT S → S' j = S j
theorem Ag.n {S S' : Nat → Int} (h : Ag S S') : sN S' = sN S := by unfold sN; rw [h 0 (by omega)]
theorem Ag.t {S S' : Nat → Int} (h : Ag S S') : sT S' = sT S := by unfold sT; rw [h 1 (by omega)]
theorem Ag.row {S S' : Nat → Int} (h : Ag S S') {t : Nat} (ht : t < sT S) : fS S' t = fS S t ∧ fA S' t = fA S t ∧ fB S' t = fB S t ∧ fL S' t = fL S t ∧ fH S' t = fH S t := by
  have e0 : S' (242 + 6 * t) = S (242 + 6 * t) := h _ (by omega)
  unfold fS fA fB fL fH
  rw [e0, h (242 + 6 * t + 1) (by omega), h (242 + 6 * t + 2) (by omega), h (242 + 6 * t + 3) (by omega), h (242 + 6 * t + 4) (by omega)]
  exact ⟨rfl, rfl, rfl, rfl, rfl⟩
theorem Ag.v {S S' : Nat → Int} (h : Ag S S') {t : Nat} (ht : t < sT S) : fV S' t = fV S t := h _ (by omega)
theorem Ag.lvKe {S S' : Nat → Int} (h : Ag S S') : ∀ k, k ≤ sT S → lvK S' k = lvK S k
  | 0, _ => rfl
  | k + 1, hk => by
    rw [lvK_succ, lvK_succ, Ag.lvKe h k (by omega)]
    unfold isLv
    rw [h.v (by omega)]
theorem Ag.lve {S S' : Nat → Int} (h : Ag S S') : lv S' = lv S := by
  unfold lv
  rw [h.t]
  exact h.lvKe _ (Nat.le_refl _)
theorem Ag.sel {S S' : Nat → Int} (h : Ag S S') (w : Int) : selK S' w (sT S') = selK S w (sT S) := by
  unfold selK
  rw [h.t, h.lvKe _ (Nat.le_refl _)]
theorem Ag.agl {S S' : Nat → Int} (h : Ag S S') {l : List Nat} (hl : ∀ t, t ∈ l → t < sT S) : AgL S S' l := ⟨h 0 (by omega), fun p hp => h _ (by omega), fun t ht => h.row (hl t ht)⟩
theorem Ag.ok {M : Nat} {S S' : Nat → Int} (h : Ag S S') (k : SOk M S) : SOk M S' := by
  refine ⟨by rw [h 0 (by omega)]; exact k.1, by rw [h 1 (by omega)]; exact k.2.1, fun p hp => ?_, fun t ht => ?_⟩
  · rw [h.n] at hp
    exact (k.2.2.1 p hp).cg (fun i hi => h _ (by have := k.n.2; omega))
  · rw [h.t] at ht
    rw [h.n]
    exact (k.2.2.2 t ht).cg (fun w hw => h _ (by omega))
theorem Ag.ist {S S' : Nat → Int} {z : Hp} (h : Ag S S') (hn : sN S ≤ 30) (k : ISt z S) : ISt z S' := by
  rcases k with k | ⟨k1, k2, ⟨L, k3, k4⟩, k5⟩
  · exact Or.inl k
  · have al : AgL S S' (lv S) := h.agl (fun t ht => (lvK_lt ht).1)
    have eg : gOf S' = gOf S := by unfold gOf; rw [h.lve]; exact al.gLe
    refine Or.inr ⟨k1, by rw [h.lve]; exact al.cls hn k2, ⟨L, by rw [eg, h.n]; exact k3, k4⟩, ?_⟩
    rcases k5 with k5 | ⟨k5, p, cs, q1, q2, q3, q4⟩
    · exact Or.inl k5
    · refine Or.inr ⟨k5, p, cs, fun t ht => ?_, by rw [h.lve]; exact q2, q3, q4⟩
      rw [h.lve] at ht
      rw [h.sel]
      have as : AgL S S' (selK S t (sT S)) := h.agl (fun u hu => (selK_mem hu).1)
      exact ⟨fun q => as.CRe hn ((q1 t ht).mp q), fun q => (q1 t ht).mpr (as.sy.CRe (by rw [h.n]; exact hn) q)⟩
theorem BkSt.cg2 {z z' : Hp} {r m : Nat} {S S' : Nat → Int} (h : BkSt z r S m) (e : ∀ t, t < m → ∀ w, w ≤ 4 → S' (242 + 6 * t + w) = S (242 + 6 * t + w)) (ez : ∀ c t, r + 34 ≤ c → c ≤ r + 38 → t < m → z' c t = z c t) : BkSt z' r S' m := fun t ht => by
  have := (h.cg e) t ht
  rw [ez (r + 34) t (by omega) (by omega) ht, ez (r + 35) t (by omega) (by omega) ht, ez (r + 36) t (by omega) (by omega) ht, ez (r + 37) t (by omega) (by omega) ht, ez (r + 38) t (by omega) (by omega) ht]
  exact this
theorem Inv.over {zC zM zC' zM' : Hp} (h : Inv zC zM) (hC : ∀ c, c ≠ 85 → (c < 35 ∨ 40 < c) → (c < 109 ∨ 131 < c) → zC' c = zC c) (hr : ∀ c u, 35 ≤ c → c ≤ 40 → u ≠ sT (zM 1) → zC' c u = zC c u) (ha : Ag (zM 1) (zM' 1)) (hR : RefW zM' (zM' 1)) (m0 : ∀ j, j = 2 ∨ j = 6 ∨ j = 7 → zM' 0 j = zM 0 j) (mc : ∀ c, c = 2 ∨ c = 3 ∨ c = 4 ∨ c = 18 ∨ c = 19 → zM' c = zM c) : Inv zC' zM' := by
  obtain ⟨h1, ⟨b0, b1, b2, b3, b4, b5⟩, h3, h4, h5, h6, _, h8⟩ := h
  have hn := h1.n
  have c0 : zC' 0 = zC 0 := hC 0 (by omega) (by omega) (by omega)
  refine ⟨ha.ok h1, ⟨?_, ?_, ?_, fun u hu => ?_, fun u hu => ?_, fun p hp i hi => ?_⟩, ?_, h4.to (hC 81 (by omega) (by omega) (by omega)) (hC 82 (by omega) (by omega) (by omega)) (mc 3 (by omega)) (m0 6 (by omega)), h5.to (hC 83 (by omega) (by omega) (by omega)) (hC 84 (by omega) (by omega) (by omega)) (mc 4 (by omega)) (m0 7 (by omega)), h6.to (fun c a b => hC c (by omega) (by omega) (by omega)) (mc 18 (by omega)) (mc 19 (by omega)), hR, ?_⟩
  · rw [hC 1 (by omega) (by omega) (by omega), ha 0 (by omega)]; exact b0
  · rw [hC 1 (by omega) (by omega) (by omega), ha 1 (by omega)]; exact b1
  · rw [ha.t]
    exact b2.cg2 (fun t ht w hw => ha _ (by omega)) (fun c t c1 c2 ht => hr c t (by omega) (by omega) (by omega))
  · rw [ha.t] at hu
    rw [ha.v hu, hr (1 + 39) u (by omega) (by omega) (by omega)]; exact b3 u hu
  · rw [ha.n] at hu
    obtain ⟨x, l, y, w1, w2, w3, w4⟩ := (b4 u hu).cg (S' := zM' 1) (fun i hi => ha _ (by omega))
    refine ⟨by rw [hC (1 + 33) (by omega) (by omega) (by omega)]; exact x, l, by rw [hC (1 + 32) (by omega) (by omega) (by omega)]; exact y, w1, w2, fun i hi => ?_, w4⟩
    rw [hC (1 + 2 + u) (by omega) (by omega) (by omega)]; exact w3 i hi
  · rw [hC (1 + 2 + p) (by omega) (by omega) (by omega)]; exact b5 p hp i hi
  · unfold IKp
    rw [c0, m0 2 (by omega), mc 2 (by omega)]
    rcases h3 with h3 | ⟨a, b, c, d⟩
    · exact Or.inl h3
    · exact Or.inr ⟨a, b, c, d.to c.n.2 (fun c p q => hC c (by omega) (by omega) (by omega))⟩
  · exact (ha.ist hn.2 h8).to (fun c hc => hC c (by omega) (by omega) (by omega)) (by rw [c0]; exact ⟨rfl, rfl, rfl⟩)
theorem w_back {S : Nat → Int} {r : Nat → Int} {v : Int} {z : Hp} {K : Hp → Prop} (hS : SOk 60 S) (e : z 1 = apS S (sT S) r v) (k : ∀ z' : Hp, Ag S (z' 1) → RefW z' (z' 1) → (∀ j, j ≠ 17 → j ≠ 18 → j ≠ 19 → j ≠ 20 → j ≠ 21 → z' 0 j = z 0 j) → (∀ c, c ≠ 0 → c ≠ 1 → (c < 6 ∨ 12 < c) → z' c = z c) → K z') : hp1 (kup z 1 1 ((z 1 1) - 1)) (fun z10 => cal_X10_works z10 K) := by
  have ht := hS.t
  refine hp_i ?_
  have e1 : z 1 1 - 1 = (sT S : Int) := by rw [e, apS_1]; omega
  rw [e1]
  have ag : Ag S (kup z 1 1 (sT S : Int) 1) := fun j hj => by
    by_cases g : j = 1
    · subst g; rw [kup_eq]; exact ht.1.symm
    · rw [pt_ne g, e]; exact apS_o g (by omega)
  have hS' : SOk 60 (kup z 1 1 (sT S : Int) 1) := ag.ok hS
  refine w_X10_works (M := 60) (by omega) rfl hS' (fun u hu _ => by have := hS'.t; omega) (fun z' hR f0 fc => k z' ?_ ?_ (fun j a b c d e => ?_) (fun c c0 c1 c2 => ?_))
  · rw [fc 1 (by decide) (by omega)]; exact ag
  · rw [fc 1 (by decide) (by omega)]; exact hR
  · rw [f0 j a b c d e, kup_c (by decide)]
  · rw [fc c c0 c2]; funext i; exact kup_c c1
theorem apS_f4 {S : Nat → Int} {r : Nat → Int} {v : Int} (ht : sT S ≤ 60) (h4 : r 0 = 4 → sT S < 60) : ∀ t, t < sT (apS S (sT S) r v) → fS (apS S (sT S) r v) t = 4 → t < 60 := fun t ht2 e => by
  rw [apS_t] at ht2
  by_cases g : t = sT S
  · subst g
    rw [apS_row.1] at e
    exact h4 e
  · omega
theorem w_X9_workOneMore {S : Nat → Int} {r : Nat → Int} {z : Hp} {K : Hp → Prop} (hb : Bk z 1 S) (hS : SOk 60 S) (er : ∀ i, i < 5 → z 85 i = r i) (hr : SRow (sN S) r 1) (h4 : r 0 = 4 → sT S < 60) (k : ∀ z' : Hp, ClsW z' 109 (apS S (sT S) r 1) (lv (apS S (sT S) r 1)) 125 → (∀ c, (c < 35 ∨ 40 < c) → (c < 109 ∨ 130 < c) → z' c = z c) → (∀ c u, 35 ≤ c → c ≤ 40 → u ≠ sT S → z' c u = z c u) → K z') : cal_X9_workOneMore z K := by
  have hn := hS.n
  have ht := hS.t
  obtain ⟨b0, b1, b2, b3, b4, b5⟩ := hb
  have hok := apS_ok hS hr
  have h4' := apS_f4 (v := 1) ht.2 h4
  have hrw := @apS_row S (sT S) r 1
  have ne : ∀ j, j ≠ 1 → (j < 242 + 6 * sT S ∨ 242 + 6 * sT S + 6 ≤ j) → apS S (sT S) r 1 j = S j := fun j => apS_o
  have en : sN (apS S (sT S) r 1) = sN S := apS_n
  have et : sT (apS S (sT S) r 1) = sT S + 1 := apS_t
  generalize apS S (sT S) r 1 = S' at *
  unfold cal_X9_workOneMore
  rw [b1, ht.1]
  refine w_write ht.2 (fun z1 e1 e2 e3 => ?_)
  have e11 : z1 1 1 + 1 = ((sT S + 1 : Nat) : Int) := by rw [e3 1 (by omega), b1, ht.1]; omega
  rw [e11]
  refine w_X8_work (m := sT S + 1) (S := S') (F := 125) (w := -1) (by omega) (by omega) ⟨by decide, by decide⟩ (by decide) (by rw [en, ne 0 (by omega) (by omega)]; exact hn) (fun t htt => ⟨hok.2.2.2 t (by omega), h4' t (by omega)⟩) (fun t htt => ?_) (by rw [e3 1 (by omega), ne 0 (by omega) (by omega)]; exact b0) (fun p hp => ?_) (fun t htt => ?_) (fun z' hw hf => ?_)
  · by_cases g : t = sT S
    · subst g
      obtain ⟨w0, w1, w2, w3, w4, _⟩ := hrw
      obtain ⟨v0, v1, v2, v3, v4, _⟩ := e1
      rw [w0, w1, w2, w3, w4]
      have := hr.2.1
      exact ⟨v0.trans (er 0 (by omega)), v1.trans (by rw [er 1 (by omega)]; omega), v2.trans (er 2 (by omega)), v3.trans (er 3 (by omega)), v4.trans (er 4 (by omega))⟩
    · exact b2.cg2 (S' := S') (fun u hu w hw => ne _ (by omega) (by omega)) (fun c u c1 c2 hu => e2 c u (by omega)) t (by omega)
  · rw [en] at hp
    have x : pX S' p = pX S p := ne _ (by omega) (by omega)
    rw [x, e3 (1 + 33) (by omega)]
    exact ⟨(b4 p hp).1, (hS.2.2.1 p hp).2⟩
  · by_cases g : t = sT S
    · subst g
      rw [hrw.2.2.2.2.2]; exact e1.2.2.2.2.2
    · have x : fV S' t = fV S t := ne _ (by omega) (by omega)
      rw [x, e2 (1 + 39) t g]; exact b3 t (by omega)
  · rw [selK_neg, ← et] at hw
    exact k z' hw (fun c c1 c2 => by rw [hf c (by omega), e3 c c1]) (fun c u c1 c2 c3 => by rw [hf c (by omega), e2 c u c3])
/-- the two thoughts are one -/
theorem both {zC zM : Hp} {S : Nat → Int} (hok : SOk 61 S) (h4 : ∀ t, t < sT S → fS S t = 4 → t < 60) (hC : ClsW zC 109 S (lv S) 125) (hM : RefW zM S) : zC 109 4 = zM 0 17 ∧ (0 ≤ zM 0 17 ∧ zM 0 17 ≤ 4) ∧ (zM 0 17 = 0 → ∀ e, e < 240 → zC 123 e = zM 10 e ∧ 0 ≤ zM 10 e ∧ zM 10 e ≤ 3000) ∧ Row zC 112 (gOf S) ∧ Row zM 6 (gOf S) := by
  have hall := lv_allR (by decide : 61 ≤ 61) hok h4
  have hn := hok.n
  have q := CR.uq hn.2 (hC.cr (by decide) hall) hM.cr
  obtain ⟨_, _, ab, cl, wh, hF, hlk, h5, hc⟩ := hC
  obtain ⟨ab', cl', wh', r6, r7, r8, r9, hab', hlk', hm⟩ := hM
  obtain ⟨bd, _, _⟩ := hlk'.bd hn.2
  refine ⟨q, ?_, fun e0 => ?_, hF.2.2.2.1, r6⟩
  · rcases hm with ⟨a, _, b, _⟩ | ⟨a, b, _⟩
    · omega
    · obtain ⟨q1, _, _⟩ := run_all hall 1000000
      have := q1.2.2.1
      have b2 : zM 0 17 = rCl (runR (allR S (gOf S) (lv S)) 1000000 0 rSt0).2 := b.2.1
      rw [b2]
      omega
  · rcases hm with ⟨a, _, b, _⟩ | ⟨a, b, _⟩
    · exact absurd (b.symm.trans e0) a
    · rcases hc with ⟨c1, c2, _⟩ | ⟨c1, c2, c3, c4⟩
      · exact absurd (c2.symm.trans (q.trans e0)) c1
      · rcases c4 with ⟨d1, d2, d3⟩ | ⟨d1, _⟩
        · have e := run_enough (F := 125) (F' := 1000000) (fun r hr => (hall r hr).1) (by decide) (Or.inr d3) d2 (by decide)
          have b1 : ∀ e, e < 240 → zM 10 e = rE (runR (allR S (gOf S) (lv S)) 1000000 0 rSt0).2 e := fun e he => (b.1 e he).1
          rw [e] at b1
          obtain ⟨q1, _, _⟩ := run_all hall 125
          refine fun e he => ⟨?_, ?_⟩
          · rw [b1 e he]; exact (c2.1 e he).1
          · rw [b1 e he]; exact q1.2.1 d2 e
        · rw [q, e0] at d1
          exact absurd d1 (by decide)
theorem w_yearsBetween {r p w : Nat} {g : Nat → Nat} {E : Nat → Int} {z : Hp} {K : Int → Prop} (hr : Row z (r + 2 + 1) g) (hp : p < 30) (hg : g p < 30) (hw : w ≤ 1) (hE : ∀ e, e < 240 → z (r + 13 + 1) e = E e) (k : K (E (2 * (2 * g p + w) + 1) - E (2 * (2 * g p + w)))) : cal_X9_yearsBetween r p w z K := by
  refine w_personEnd (s := 0) hr hp (lt_i ⟨⟨by omega, by omega⟩, ⟨by omega, by omega⟩, ?_⟩)
  rw [show (((2 * (2 * g p + w) + 0 : Nat) : Int) + 1).toNat = 2 * (2 * g p + w) + 1 by omega, show (((2 * (2 * g p + w) + 0 : Nat) : Int)).toNat = 2 * (2 * g p + w) by omega, hE _ (by omega), hE _ (by omega)]
  exact k
theorem w_widthOf {p w : Nat} {g : Nat → Nat} {E : Nat → Int} {z : Hp} {K : Int → Prop} (hr : Row z 6 g) (hp : p < 30) (hg : g p < 30) (hw : w ≤ 1) (hE : ∀ e, e < 240 → z 10 e = E e) (k : K (E (2 * (2 * g p + w) + 1) - E (2 * (2 * g p + w)))) : cal_X10_widthOf p w z K := by
  refine w_endOf (s := 0) hr hp (lt_i ⟨⟨by omega, by omega⟩, ⟨by omega, by omega⟩, ?_⟩)
  rw [show (((2 * (2 * g p + w) + 0 : Nat) : Int) + 1).toNat = 2 * (2 * g p + w) + 1 by omega, show (((2 * (2 * g p + w) + 0 : Nat) : Int)).toNat = 2 * (2 * g p + w) by omega, hE _ (by omega), hE _ (by omega)]
  exact k
