/-! thoughts -/
theorem five {P : Nat → Prop} (h0 : P 0) (h1 : P 1) (h2 : P 2) (h3 : P 3) (h4 : P 4) : ∀ i, i < 5 → P i := fun i hi => by
  rcases (by omega : i = 0 ∨ i = 1 ∨ i = 2 ∨ i = 3 ∨ i = 4) with rfl | rfl | rfl | rfl | rfl <;> assumption
theorem row5 {z : Hp} {t : Nat} {a b : Int} : (kup (kup (kup (kup (kup z t 0 5) t 1 a) t 2 b) t 3 (-5)) t 4 (-5)) t 0 = 5 ∧ (kup (kup (kup (kup (kup z t 0 5) t 1 a) t 2 b) t 3 (-5)) t 4 (-5)) t 1 = a ∧ (kup (kup (kup (kup (kup z t 0 5) t 1 a) t 2 b) t 3 (-5)) t 4 (-5)) t 2 = b ∧ (kup (kup (kup (kup (kup z t 0 5) t 1 a) t 2 b) t 3 (-5)) t 4 (-5)) t 3 = -5 ∧ (kup (kup (kup (kup (kup z t 0 5) t 1 a) t 2 b) t 3 (-5)) t 4 (-5)) t 4 = -5 := by
  refine ⟨?_, ?_, ?_, ?_, kup_eq⟩
  · rw [pt_ne (by decide), pt_ne (by decide), pt_ne (by decide), pt_ne (by decide)]; exact kup_eq
  · rw [pt_ne (by decide), pt_ne (by decide), pt_ne (by decide)]; exact kup_eq
  · rw [pt_ne (by decide), pt_ne (by decide)]; exact kup_eq
  · rw [pt_ne (by decide)]; exact kup_eq
theorem row5c {z : Hp} {t c : Nat} {a b : Int} (h : c ≠ t) : (kup (kup (kup (kup (kup z t 0 5) t 1 a) t 2 b) t 3 (-5)) t 4 (-5)) c = z c := by
  funext i
  rw [kup_c h, kup_c h, kup_c h, kup_c h, kup_c h]
theorem inv_op20 : op20 Inv := by
  intro a1 a2 zC zM ha hb h
  have h1 := h.1
  have hn := h1.n
  have ht := h1.t
  have b0 := h.2.1.1
  obtain ⟨r0, r1, r2, r3⟩ := rgS h1
  unfold cal_X9_same
  refine w_X9_arePersons ha hb (by rw [b0]; exact r0) (fun q => w_t rg1 ?_) (fun q => w_f rg0 ?_)
  rotate_left
  · rw [b0] at q
    refine w_X10_isPerson ha r2 (fun q1 => w_t rg1 (w_X10_isPerson hb r2 (fun q2 => absurd ⟨q1, q2⟩ q) (fun _ => w_f rg0 ⟨rfl, h⟩))) (fun _ => w_f rg0 ⟨rfl, h⟩)
  rw [b0] at q
  refine w_if2 ha hb (fun e => ?_) (fun ne12 => ?_)
  · exact w_X10_isPerson ha r2 (fun _ => w_t rg1 (w_X10_isPerson hb r2 (fun _ => w_t rg1 (w_if2 ha hb (fun _ => ⟨rfl, h⟩) (fun r => absurd e r))) (fun r => absurd q.2 r))) (fun r => absurd q.1 r)
  refine hp_i (hp_i (hp_i (hp_i (hp_i ?_))))
  obtain ⟨c0, c1, c2, c3, c4⟩ := @row5 zC 85 a1 a2
  obtain ⟨m0, m1, m2, m3, m4⟩ := @row5 zM 5 a1 a2
  have cf : ∀ c, c ≠ 85 → (kup (kup (kup (kup (kup zC 85 0 5) 85 1 a1) 85 2 a2) 85 3 (-5)) 85 4 (-5)) c = zC c := fun c hc => row5c hc
  have mf : ∀ c, c ≠ 5 → (kup (kup (kup (kup (kup zM 5 0 5) 5 1 a1) 5 2 a2) 5 3 (-5)) 5 4 (-5)) c = zM c := fun c hc => row5c hc
  have ref : ∀ G : Int → Hp → Prop, cal_X10_comes 1 (kup (kup (kup (kup (kup zM 5 0 5) 5 1 a1) 5 2 a2) 5 3 (-5)) 5 4 (-5)) (fun z8 => lt1 (z8 0 17) (fun v9 => hp1 (kup z8 1 1 ((z8 1 1) - 1)) (fun z10 => cal_X10_works z10 (fun z11 => G v9 z11)))) → cal_X10_same a1 a2 zM G := fun G g =>
    w_X10_isPerson ha r2 (fun _ => w_t rg1 (w_X10_isPerson hb r2 (fun _ => w_t rg1 (w_if2 ha hb (fun r => absurd r ne12) (fun _ => hp_i (hp_i (hp_i (hp_i (hp_i g))))))) (fun r => absurd q.2 r))) (fun r => absurd q.1 r)
  generalize (kup (kup (kup (kup (kup zC 85 0 5) 85 1 a1) 85 2 a2) 85 3 (-5)) 85 4 (-5)) = z1 at *
  generalize (kup (kup (kup (kup (kup zM 5 0 5) 5 1 a1) 5 2 a2) 5 3 (-5)) 5 4 (-5)) = m7 at *
  have hr : SRow (sN (zM 1)) (m7 5) 1 := by
    unfold SRow isTwo isYrs
    rw [m0, m1, m2, m3, m4]
    omega
  have h4 : m7 5 0 = 4 → sT (zM 1) < 60 := fun e => by rw [m0] at e; exact absurd e (by decide)
  refine w_X9_workOneMore (S := zM 1) (r := m7 5) (h.2.1.to hn.2 (fun c _ _ => cf c (by omega))) h1 (five (c0.trans m0.symm) (c1.trans m1.symm) (c2.trans m2.symm) (c3.trans m3.symm) (c4.trans m4.symm)) hr h4 (fun z2 hW f1 f2 => ?_)
  refine ref _ (w_X10_comes (T := sT (zM 1)) (S := apS (zM 1) (sT (zM 1)) (m7 5) 1) (by rw [mf 1 (by decide)]; exact ht.1) ht.2 (by rw [mf 1 (by decide)]) (apS_ok h1 hr) (apS_f4 ht.2 h4) (fun z8 x1 x2 x3 x4 => lt_i (w_back h1 x1 (fun z11 y1 y2 y3 y4 => ⟨(both (apS_ok h1 hr) (apS_f4 ht.2 h4) hW x2).1, ?_⟩))))
  refine h.over (fun c p1 p2 p3 => by rw [f1 c p2 (by omega), cf c p1]) (fun c u p1 p2 p3 => by rw [f2 c u p1 p2 p3, cf c (by omega)]) y1 y2 (fun j hj => by rw [y3 j (by omega) (by omega) (by omega) (by omega) (by omega), x3 j (by omega) (by omega) (by omega) (by omega) (by omega), mf 0 (by decide)]) (fun c hc => by rw [y4 c (by omega) (by omega) (by omega), x4 c (by omega) (by omega) (by omega) (by omega), mf c (by omega)])
