theorem inv_op21 : op21 Inv := by
  intro a1 a2 zC zM ha hb h
  have h1 := h.1
  have hn := h1.n
  have ht := h1.t
  have b0 := h.2.1.1
  have b1 := h.2.1.2.1
  obtain ⟨r0, r1, r2, r3⟩ := rgS h1
  unfold cal_X9_narrows
  refine w_X0_isPerson (t := 1) ha (by rw [b0]; exact r0) (fun q => w_t rg1 ?_) (fun q => w_f rg0 ?_)
  rotate_left
  · rw [b0] at q
    exact w_X10_isPerson ha r2 (fun r => absurd r q) (fun _ => w_f rg0 ⟨rfl, h⟩)
  rw [b0] at q
  refine w_X9_isFlag hb (fun q2 => w_t rg1 ?_) (fun q2 => w_f rg0 (w_X10_isPerson ha r2 (fun _ => w_t rg1 (w_X10_isIn hb rg0 rg1 (fun r => absurd r q2) (fun _ => w_f rg0 ⟨rfl, h⟩))) (fun r => absurd q r)))
  have ref1 : ∀ G : Int → Hp → Prop, (rg (zM 1 1) ∧ if (zM 1 1) = 60 then (G (-4) zM) else (rg (zM 0 17) ∧ if (zM 0 17) = 0 then (cal_X10_reads  zM (fun v4 z3 => rg v4 ∧ if v4 = 0 then (G ((-100) - (z3 0 9)) z3) else (cal_X10_widthOf a1 a2 z3 (fun v5 => lt1 v5 (fun v6 => cal_X10_comes 1 z3 (fun z7 => jn (fun J9 : Int → Prop => rg (z7 0 17) ∧ if (z7 0 17) = 0 then (cal_X10_widthOf a1 a2 z7 (fun v12 => lt1 (v6 - v12) (fun v13 => J9 v13))) else (lt1 ((-1000) - (z7 0 17)) (fun v14 => J9 v14))) (fun v8 => hp1 (kup z7 1 1 ((z7 1 1) - 1)) (fun z10 => cal_X10_works  z10 (fun z11 => G v8 z11))))))))) else (G (-3) zM))) → cal_X10_narrows_ a1 a2 zM G := fun G g =>
    w_X10_isPerson ha r2 (fun _ => w_t rg1 (w_X10_isIn hb rg0 rg1 (fun _ => w_t rg1 g) (fun r => absurd q2 r))) (fun r => absurd q r)
  refine w_if (by rw [b1]; exact r1) (fun c1 => ?_) (fun c1 => ref1 _ (w_if r1 (fun _ => ⟨rfl, h⟩) (fun e => absurd e (by rw [b1] at c1; omega))))
  rw [b1] at c1
  refine w_settle h (fun z3 h' h8 st _ => ?_)
  obtain ⟨ab, st, hab, hF, ⟨s6, _, _, _⟩, ⟨hE, hRB, _⟩, ⟨hC4, hC5, _⟩, _⟩ := st
  have rC : rg (zM 0 17) := ⟨by omega, by omega⟩
  rw [hC4]
  refine w_if rC (fun c0 => ?_) (fun c0 => ref1 _ (w_if r1 (fun e => absurd e (by omega)) (fun _ => w_if rC (fun e => absurd e c0) (fun _ => ⟨rfl, h'⟩))))
  obtain ⟨n, n1, n2, n3, n4⟩ := h'.2.2.2.1
  rw [h'.2.1.1, hn.1]
  refine w_X4_reads (n := n) (N := sN (zM 1)) (T := zM 3) ⟨n3, n1, n4⟩ hn.2 (fun v z4 x5 xv xf => lt_i (hp_i ?_))
  have ref2 := fun (G : Int → Hp → Prop) g => ref1 G (w_if r1 (fun e => absurd e (by omega)) (fun _ => w_if rC (fun _ => w_X10_reads (n := n) (N := sN (zM 1)) (T := zM 3) ⟨n2, n1, fun i hi => ⟨rfl, (n4 i hi).2⟩⟩ hn.2 hn.1 g) (fun e => absurd c0 e)))
  have cf : ∀ c, c ≠ 81 → c ≠ 85 → kup z4 81 1 0 c = z3 c := fun c a b => by
    rw [← xf c b]; funext i; exact kup_c a
  have e85 : ∀ j, kup z4 81 1 0 85 j = z4 85 j := fun j => kup_c (by decide)
  rcases xv with ⟨rfl, pneg, s0, s1, s2, s3, s4⟩ | ⟨rfl, ppos⟩
  rotate_left
  · refine w_f rg0 (ref2 _ (fun v z' y9 yv y0 y1 y2 y3 y4 y6 yf => ?_))
    rcases yv with ⟨rfl, yv⟩ | ⟨rfl, yv⟩
    · exact absurd yv (by omega)
    · exact w_f rg0 ⟨by rw [kup_c (by decide), x5, y9], h'.read xf y6 yf⟩
  refine w_t rg1 ?_
  have hrow0 : SRow (sN (zM 1)) (z4 85) 1 := pF_row n1 pneg s0 s1 s2 s3 s4 (Or.inr rfl)
  have hT : sT (zM 1) < 60 := by omega
  obtain ⟨p, rfl⟩ : ∃ p : Nat, a1 = p := ⟨a1.toNat, by omega⟩
  obtain ⟨w, rfl⟩ : ∃ w : Nat, a2 = w := ⟨a2.toNat, by omega⟩
  have hp : p < sN (zM 1) := by omega
  have hg30 : gOf (zM 1) p < 30 := h1.g30 hp
  have hbk : Bk (kup z4 81 1 0) 1 (zM 1) := h'.2.1.to hn.2 (fun c _ _ => cf c (by omega) (by omega))
  refine w_X9_workOneMore (S := zM 1) (r := z4 85) hbk h1 (fun i _ => e85 i) hrow0 (fun _ => hT) (fun z8 hW f1 f2 => ?_)
  have hok := apS_ok h1 hrow0
  have hf4 := apS_f4 (v := 1) ht.2 (fun _ : z4 85 0 = 4 => hT)
  have en : sN (apS (zM 1) (sT (zM 1)) (z4 85) 1) = sN (zM 1) := apS_n
  have hg2 : gOf (apS (zM 1) (sT (zM 1)) (z4 85) 1) p < 30 := by have := (gOf_good hok).1 p; omega
  have r8 : 0 ≤ z8 109 4 ∧ z8 109 4 ≤ 4 := by
    have hok2 := hok.n
    obtain ⟨_, _, ab, cl, wh, _, hlk, _, hc⟩ := hW
    obtain ⟨bd, _, _⟩ := hlk.bd hok2.2
    rcases hc with ⟨_, e, _⟩ | ⟨_, _, _, ⟨e, _⟩ | ⟨e, _⟩⟩ <;> omega
  have r8' : rg (z8 109 4) := ⟨by omega, by omega⟩
  have row109 : Row z8 112 (gOf (apS (zM 1) (sT (zM 1)) (z4 85) 1)) := by
    obtain ⟨_, _, ab, cl, wh, hF2, _⟩ := hW
    exact hF2.2.2.2.1
  have row86 : Row z8 89 (gOf (zM 1)) := by
    have := hF.2.2.2.1
    unfold Row at *
    rw [f1 89 (by omega) (by omega), cf 89 (by decide) (by decide)]
    exact this
  have yr86 : ∀ e, e < 240 → z8 100 e = zM 10 e := fun e he => by
    rw [f1 100 (by omega) (by omega), cf 100 (by decide) (by decide), (hE e he).2.2.2.1, (hE e he).1]
  have fin : ∀ v : Int, (z8 109 4 = 0 → v = (zM 10 (2 * (2 * gOf (zM 1) p + w) + 1) - zM 10 (2 * (2 * gOf (zM 1) p + w))) - (z8 123 (2 * (2 * gOf (apS (zM 1) (sT (zM 1)) (z4 85) 1) p + w) + 1) - z8 123 (2 * (2 * gOf (apS (zM 1) (sT (zM 1)) (z4 85) 1) p + w)))) → (z8 109 4 ≠ 0 → v = -1000 - z8 109 4) → cal_X10_narrows_ p w zM (fun r' zM' => v = r' ∧ Inv z8 zM') := fun u hu0 hu1 => by
    refine ref2 _ (fun v z' y9 yv y0 y1 y2 y3 y4 y6 yf => ?_)
    rcases yv with ⟨rfl, yv⟩ | ⟨rfl, yv⟩
    rotate_left
    · exact absurd pneg (by omega)
    have hI := h'.read xf y6 yf
    have m1 : z' 1 = zM 1 := yf.2 1 (by decide) (by decide)
    have er : apS (z' 1) (sT (zM 1)) (z' 5) 1 = apS (zM 1) (sT (zM 1)) (z4 85) 1 := by
      rw [m1]
      funext j
      unfold apS
      by_cases g1 : j = 1
      · rw [if_pos g1, if_pos g1]
      · rw [if_neg g1, if_neg g1]
        by_cases g2 : 242 + 6 * sT (zM 1) ≤ j ∧ j < 242 + 6 * sT (zM 1) + 5
        · rw [if_pos g2, if_pos g2]
          exact five (P := fun i => z' 5 i = z4 85 i) (by rw [y0, s0]) (by rw [y1, s1]) (by rw [y2, s2]) (by rw [y3, s3]) (by rw [y4, s4]) _ (by omega)
        · rw [if_neg g2, if_neg g2]
    refine w_t rg1 (w_widthOf (g := gOf (zM 1)) (E := zM 10) (by unfold Row at *; rw [yf.2 6 (by decide) (by decide)]; exact s6) (by omega) hg30 (by omega) (fun e _ => by rw [yf.2 10 (by decide) (by decide)]) (lt_i ?_))
    refine w_X10_comes (T := sT (zM 1)) (by rw [m1]; exact ht.1) ht.2 er hok hf4 (fun z9 x1 x2 x3 x4 => ?_)
    obtain ⟨k1, k2, k3, k4, k5⟩ := both hok hf4 hW x2
    have fin : ∀ v : Int, u = v → hp1 (kup z9 1 1 ((z9 1 1) - 1)) (fun z10 => cal_X10_works z10 (fun z11 => u = v ∧ Inv z8 z11)) := fun v hv => by
      refine w_back h1 x1 (fun z11 t1 t2 t3 t4 => ⟨hv, ?_⟩)
      have t1' : Ag (z' 1) (z11 1) := by rw [m1]; exact t1
      refine hI.over (fun c p1 p2 p3 => f1 c p2 (by omega)) (fun c u p1 p2 p3 => f2 c u p1 p2 (by rw [m1] at p3; exact p3)) t1' t2 (fun j hj => by rw [t3 j (by omega) (by omega) (by omega) (by omega) (by omega), x3 j (by omega) (by omega) (by omega) (by omega) (by omega)]) (fun c hc => by rw [t4 c (by omega) (by omega) (by omega), x4 c (by omega) (by omega) (by omega) (by omega)])
    have r9 : rg (z9 0 17) := ⟨by omega, by omega⟩
    refine jn_i (fun J => J u) (fin u rfl) (fun J hJ => w_if r9 (fun e => ?_) (fun e => ?_))
    · refine w_widthOf (g := gOf (apS (zM 1) (sT (zM 1)) (z4 85) 1)) (E := z8 123) k5 (by omega) hg2 (by omega) (fun x hx => (k3 e x hx).1.symm) (lt_i (lt_i ?_))
      rw [← hu0 (k1.trans e)]
      exact hJ
    · refine lt_i ?_
      rw [← k1, ← hu1 (by rw [k1]; exact e)]
      exact hJ
  refine w_if r8' (fun e => ?_) (fun e => fin _ (fun q => absurd q e) (fun _ => rfl))
  exact w_yearsBetween (r := 86) (E := zM 10) row86 (by omega) hg30 (by omega) yr86 (w_yearsBetween (r := 109) (E := z8 123) row109 (by omega) hg2 (by omega) (fun _ _ => rfl) (fin _ (fun _ => rfl) (fun q => absurd e q)))
