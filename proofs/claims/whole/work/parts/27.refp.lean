theorem jn_i {α : Sort _} {F : α → Prop} {K : α} (G : α → Prop) (hk : G K) (hf : ∀ J, G J → F J) : jn F K := hf K hk
def Row (z : Hp) (c : Nat) (f : Nat → Nat) : Prop := ∀ p, p < 30 → z c p = (f p : Int)
theorem Row.or {z : Hp} {c i b : Nat} {f : Nat → Nat} (hr : Row z c f) (hi : i < 30) (hf : f i < 1073741824) (hb : b < 30) : Row (kup z c i (ior (z c i) (ishl 1 b))) c (fup f i (f i ||| 2 ^ b)) := fun p hp => by
  by_cases e : p = i
  · subst e; rw [kup_eq, fup_eq, hr p hp, ior_shl hf hb]
  · rw [kup_n (fun q => e q.2), fup_ne e, hr p hp]
theorem Row.to {z z' : Hp} {c : Nat} {f : Nat → Nat} (h : Row z c f) (e : z' c = z c) : Row z' c f := fun p hp => by rw [e]; exact h p hp
theorem Row.up {z : Hp} {c i x : Nat} {f : Nat → Nat} (hr : Row z c f) : Row (kup z c i x) c (fup f i x) := fun p hp => by
  by_cases e : p = i
  · subst e; rw [kup_eq, fup_eq]
  · rw [kup_n (fun q => e q.2), fup_ne e, hr p hp]
theorem w_X10_isLive_v {z : Hp} {t s : Nat} {K : Int → Prop} (h : 242 + 6 * t + 5 < 608) (hs : rg s) (r5 : rg (z 1 (242 + 6 * t + 5))) (r0 : rg (z 1 (242 + 6 * t))) (k : ∀ v : Int, (v = 1 ∧ fV (z 1) t = 1 ∧ fS (z 1) t = s) ∨ (v = 0 ∧ ¬ (fV (z 1) t = 1 ∧ fS (z 1) t = s)) → K v) : cal_X10_isLive t s z K :=
  w_X10_isLive h hs r5 r0 (fun q => k 1 (Or.inl ⟨rfl, q⟩)) (fun q => k 0 (Or.inr ⟨rfl, q⟩))
theorem mst_live {S : Nat → Int} {g : Nat → Nat} {s : Int} {k : Nat} (h : fV S k = 1 ∧ fS S k = s) : paL S g s (lvK S (k + 1)) = fup (paL S g s (lvK S k)) (g (fA S k)) (paL S g s (lvK S k) (g (fA S k)) ||| 2 ^ g (fB S k).toNat) := by
  rw [lvK_succ, if_pos (show isLv S k = true from decide_eq_true h.1), paL_snoc]
  unfold mst
  rw [if_pos h.2]
theorem mst_dead {S : Nat → Int} {g : Nat → Nat} {s : Int} {k : Nat} (h : ¬ (fV S k = 1 ∧ fS S k = s)) : paL S g s (lvK S (k + 1)) = paL S g s (lvK S k) := by
  rw [lvK_succ]
  by_cases q : isLv S k = true
  · rw [if_pos q, paL_snoc]
    unfold mst
    rw [if_neg (fun q5 => h ⟨of_decide_eq_true q, q5⟩)]
  · rw [if_neg q, List.append_nil]
theorem bnot_lt {a b : Nat} (h : ∀ i, a.testBit i = true → b.testBit i = true) (hne : a ≠ b) : a < b := Nat.lt_of_le_of_ne (sub_le h) hne
set_option maxHeartbeats 1000000 in
theorem w_X10_parents {z : Hp} {K : Hp → Prop} {M : Nat} {S : Nat → Int} (hM : M ≤ 61) (hS : z 1 = S) (h : SOk M S) (hg : Row z 6 (gOf S)) (k : ∀ (z' : Hp) (ab : Nat → Nat), Row z' 7 (moOf S) → Row z' 8 (faOf S) → Row z' 9 ab → IsAb (sN S) (prOf S) ab → (∀ c, c ≠ 7 → c ≠ 8 → c ≠ 9 → z' c = z c) → K z') : cal_X10_parents z K := by
  obtain ⟨hn0, hn⟩ := h.n
  obtain ⟨ht0, ht⟩ := h.t
  have hgg := gOf_good h
  show LP1 _ 0 z
  refine LP1_for 30 (fun j z' => (∀ p, p < j → z' 7 p = 0 ∧ z' 8 p = 0) ∧ ∀ c, c ≠ 7 → c ≠ 8 → c ≠ 9 → z' c = z c) 0 rfl (by omega) ⟨fun p hp => absurd hp (by omega), fun _ _ _ _ => rfl⟩ (fun X j z1 hj hI hX => ?_) (fun X z1 hI => ?_)
  · refine w_if ⟨by omega, by omega⟩ (fun e => absurd e (by omega)) (fun _ => ⟨⟨by omega, by omega⟩, ⟨by omega, by omega⟩, hX _ ⟨fun p hp => ?_, fun c h7 h8 h9 => ?_⟩⟩)
    · rw [Int.toNat_natCast]
      by_cases e : p = j
      · subst e; exact ⟨by rw [kup_c (by decide), kup_eq], kup_eq⟩
      · rw [kup_n (fun q => e q.2), kup_n (fun q => e q.2), kup_n (fun q => e q.2), kup_n (fun q => e q.2)]; exact hI.1 p (by omega)
    · funext j; rw [kup_c h8, kup_c h7, hI.2 c h7 h8 h9]
  refine w_if ⟨by omega, by omega⟩ (fun _ => ?_) (fun e => absurd e (by omega))
  show LP1 _ 0 z1
  refine LP1_for (sT S) (fun j z' => Row z' 7 (paL S (gOf S) 2 (lvK S j)) ∧ Row z' 8 (paL S (gOf S) 3 (lvK S j)) ∧ ∀ c, c ≠ 7 → c ≠ 8 → c ≠ 9 → z' c = z c) 0 rfl (by omega) ⟨fun p hp => (hI.1 p hp).1, fun p hp => (hI.1 p hp).2, hI.2⟩ (fun X j z1 hj hI hX => ?_) (fun X z1 hI => ?_)
  · obtain ⟨i7, i8, hfr⟩ := hI
    have e1 : z1 1 = S := by rw [hfr 1 (by decide) (by decide) (by decide), hS]
    have e6 : Row z1 6 (gOf S) := hg.to (hfr 6 (by decide) (by decide) (by decide))
    have ho := h.2.2.2 j hj
    refine w_if2 ⟨by omega, by omega⟩ (by rw [e1]; constructor <;> omega) (fun e => absurd e (by rw [e1]; omega)) (fun _ => ?_)
    refine w_X10_isLive_v (s := 2) (by omega) ⟨by decide, by decide⟩ (by rw [e1]; exact ho.rgs.2) (by rw [e1]; exact ho.rgs.1) (fun v hv => ?_)
    rw [e1] at hv
    have ha := ho.a
    have hga := hgg.lt ha
    refine jn_i (fun J => ∀ z', Row z' 7 (paL S (gOf S) 2 (lvK S (j + 1))) → Row z' 8 (paL S (gOf S) 3 (lvK S j)) → (∀ c, c ≠ 7 → c ≠ 8 → c ≠ 9 → z' c = z c) → J z') (fun z2 i7 i8 hfr => ?_) (fun J hJ => ?_)
    · have e1 : z2 1 = S := by rw [hfr 1 (by decide) (by decide) (by decide), hS]
      have e6 : Row z2 6 (gOf S) := hg.to (hfr 6 (by decide) (by decide) (by decide))
      refine w_X10_isLive_v (s := 3) (by omega) ⟨by decide, by decide⟩ (by rw [e1]; exact ho.rgs.2) (by rw [e1]; exact ho.rgs.1) (fun v hv => ?_)
      rw [e1] at hv
      refine jn_i (fun J => ∀ z', Row z' 7 (paL S (gOf S) 2 (lvK S (j + 1))) → Row z' 8 (paL S (gOf S) 3 (lvK S (j + 1))) → (∀ c, c ≠ 7 → c ≠ 8 → c ≠ 9 → z' c = z c) → J z') (fun z2 i7 i8 hfr => hX z2 ⟨i7, i8, hfr⟩) (fun J hJ => ?_)
      rcases hv with ⟨rfl, hv⟩ | ⟨rfl, hv⟩
      · have two : isTwo (fS S j) := isTwo_of (by omega)
        have hb := ho.b two
        have hgb := hgg.lt hb
        refine w_t rg1 (w_X10_told (w := 1) (by omega) ?_)
        rw [e1, ho.at1]
        refine ⟨⟨by omega, by omega⟩, ?_⟩
        rw [Int.toNat_natCast, e6 _ (by omega)]
        refine ⟨⟨by omega, by omega⟩, w_X10_told (w := 2) (by omega) ?_⟩
        rw [e1, ho.at2 two]
        refine ⟨⟨by omega, by omega⟩, ⟨by omega, by omega⟩, hp_i ?_⟩
        rw [Int.toNat_natCast, Int.toNat_natCast, e6 _ (by omega)]
        refine hJ _ (i7.to (by funext q; exact kup_c (by decide))) ?_ (fun c h7 h8 h9 => by funext q; rw [kup_c h8, hfr c h7 h8 h9])
        rw [mst_live (s := 3) hv]
        exact i8.or (by omega) (p30 hn (paL_ok (Or.inr rfl) hgg _ (lv_ok h (by omega)) _).1) (by omega)
      · refine w_f rg0 (hJ _ i7 ?_ hfr)
        rw [mst_dead (s := 3) hv]; exact i8
    rcases hv with ⟨rfl, hv⟩ | ⟨rfl, hv⟩
    · have two : isTwo (fS S j) := isTwo_of (by omega)
      have hb := ho.b two
      have hgb := hgg.lt hb
      refine w_t rg1 (w_X10_told (w := 1) (by omega) ?_)
      rw [e1, ho.at1]
      refine ⟨⟨by omega, by omega⟩, ?_⟩
      rw [Int.toNat_natCast, e6 _ (by omega)]
      refine ⟨⟨by omega, by omega⟩, w_X10_told (w := 2) (by omega) ?_⟩
      rw [e1, ho.at2 two]
      refine ⟨⟨by omega, by omega⟩, ⟨by omega, by omega⟩, hp_i ?_⟩
      rw [Int.toNat_natCast, Int.toNat_natCast, e6 _ (by omega)]
      refine hJ _ ?_ (i8.to (by funext q; exact kup_c (by decide))) (fun c h7 h8 h9 => by funext q; rw [kup_c h7, hfr c h7 h8 h9])
      rw [mst_live (s := 2) hv]
      exact i7.or (by omega) (p30 hn (paL_ok (Or.inl rfl) hgg _ (lv_ok h (by omega)) _).1) (by omega)
    · refine w_f rg0 (hJ _ ?_ i8 hfr)
      rw [mst_dead (s := 2) hv]; exact i7
  obtain ⟨i7, i8, hfr⟩ := hI
  have e1 : z1 1 = S := by rw [hfr 1 (by decide) (by decide) (by decide), hS]
  refine w_if2 ⟨by omega, by omega⟩ (by rw [e1]; constructor <;> omega) (fun _ => ?_) (fun e => absurd e (by rw [e1]; omega))
  have hmo := moOf_ok h
  have hfa := faOf_ok h
  have hpr := prOf_ok h
  show LP1 _ 0 z1
  refine LP1_for 30 (fun j z' => (∀ p, p < j → z' 9 p = (prOf S p : Int)) ∧ Row z' 7 (moOf S) ∧ Row z' 8 (faOf S) ∧ ∀ c, c ≠ 7 → c ≠ 8 → c ≠ 9 → z' c = z c) 0 rfl (by omega) ⟨fun p hp => absurd hp (by omega), i7, i8, hfr⟩ (fun X j z1 hj hI hX => ?_) (fun X z1 hI => ?_)
  · obtain ⟨i9, i7, i8, hfr⟩ := hI
    refine w_if ⟨by omega, by omega⟩ (fun e => absurd e (by omega)) (fun _ => ⟨⟨by omega, by omega⟩, ⟨by omega, by omega⟩, ⟨by omega, by omega⟩, hp_i ?_⟩)
    rw [Int.toNat_natCast, i7 j hj, i8 j hj, ior_n (by have := p30 hn (hmo j).1; omega) (by have := p30 hn (hfa j).1; omega)]
    refine hX _ ⟨fun p hp => ?_, i7.to (by funext q; exact kup_c (by decide)), i8.to (by funext q; exact kup_c (by decide)), fun c h7 h8 h9 => by funext q; rw [kup_c h9, hfr c h7 h8 h9]⟩
    by_cases e : p = j
    · subst e; rw [kup_eq]; rfl
    · rw [kup_n (fun q => e q.2)]; exact i9 p (by omega)
  refine w_if ⟨by omega, by omega⟩ (fun _ => ?_) (fun e => absurd e (by omega))
  obtain ⟨i9, i7, i8, hfr⟩ := hI
  show LP1 _ 1 z1
  refine LP1_ind (fun m v z' => ∃ ab : Nat → Nat, Row z' 9 ab ∧ m + sumTo ab 30 = 30 * 1073741824 + (if v = 0 then 0 else 1) ∧ (v = 0 ∨ v = 1) ∧ (∀ p, p < 30 → ab p < 2 ^ sN S ∧ (∀ q, (prOf S p).testBit q = true → (ab p).testBit q = true) ∧ ∀ q, (ab p).testBit q = true → Rch (prOf S) p q) ∧ (v = 0 → ∀ p, p < sN S → ∀ q, q < sN S → (ab p).testBit q = true → ∀ r, (ab q).testBit r = true → (ab p).testBit r = true) ∧ Row z' 7 (moOf S) ∧ Row z' 8 (faOf S) ∧ ∀ c, c ≠ 7 → c ≠ 8 → c ≠ 9 → z' c = z c) (fun X m v z1 hI hX => ?_) (n := 30 * 1073741824 + 1 - sumTo (prOf S) 30) ⟨prOf S, i9, ?_, Or.inr rfl, fun p hp => ⟨(hpr p).1, fun q hq => hq, fun q hq => Rch.one hq⟩, fun q => by omega, i7, i8, hfr⟩
  rotate_left
  · have : sumTo (prOf S) 30 ≤ sumTo (fun _ => 1073741824) 30 := sumTo_le 30 (fun i _ => Nat.le_of_lt (p30 hn (hpr i).1))
    rw [sumTo_const] at this
    rw [if_neg (by decide)]
    omega
  obtain ⟨ab, i9, hm, hv, hok, hcl, i7, i8, hfr⟩ := hI
  refine w_if (by rcases hv with rfl | rfl <;> constructor <;> omega) (fun e => ?_) (fun e => ?_)
  · refine k z1 ab i7 i8 i9 (IsAb.of hn hpr (fun p hp => (hok p hp).1) (fun p hp => (hok p hp).2.1) (fun p hp => (hok p hp).2.2) (fun p hp q hq r hr => ?_)) hfr
    have hqn : q < sN S := tb_n (hok p hp).1 hq
    by_cases hpn : p < sN S
    · exact hcl e p hpn q hqn hq r hr
    · exfalso
      have h0 := (hok p hp).2.2 q hq (fun a b => a < sN S) (fun a b hab => Decidable.byContradiction fun hc => by
        rw [(hpr a).2 (by omega), Nat.zero_testBit] at hab; cases hab) (fun a b c h1 _ => h1)
      omega
  have hv1 : v = 1 := by omega
  subst hv1
  rw [if_neg (by decide)] at hm
  show LP2 _ 0 0 z1
  refine LP2_for (sN S) (fun j w z' => ∃ ab' : Nat → Nat, Row z' 9 ab' ∧ (w = 0 ∨ w = 1) ∧ (∀ p, p < 30 → ab' p < 2 ^ sN S ∧ (∀ q, (ab p).testBit q = true → (ab' p).testBit q = true) ∧ ∀ q, (ab' p).testBit q = true → Rch (prOf S) p q) ∧ (w = 0 → ab' = ab ∧ ∀ p, p < j → ∀ q, q < sN S → (ab p).testBit q = true → ∀ r, (ab q).testBit r = true → (ab p).testBit r = true) ∧ (w = 1 → ∃ p, p < 30 ∧ ab' p ≠ ab p) ∧ Row z' 7 (moOf S) ∧ Row z' 8 (faOf S) ∧ ∀ c, c ≠ 7 → c ≠ 8 → c ≠ 9 → z' c = z c) 0 rfl (by omega) ⟨ab, i9, Or.inl rfl, fun p hp => ⟨(hok p hp).1, fun q hq => hq, (hok p hp).2.2⟩, fun _ => ⟨rfl, fun p hp => absurd hp (by omega)⟩, fun q => absurd q (by decide), i7, i8, hfr⟩ (fun Y j w z2 hj hI hY => ?_) (fun Y w z2 hI => ?_)
  · obtain ⟨ab', i9, hw, hok', hcl', hne, i7, i8, hfr⟩ := hI
    have e1 : z2 1 = S := by rw [hfr 1 (by decide) (by decide) (by decide), hS]
    refine w_if2 ⟨by omega, by omega⟩ (by rw [e1]; constructor <;> omega) (fun e => absurd e (by rw [e1]; omega)) (fun _ => ⟨⟨by omega, by omega⟩, ?_⟩)
    rw [Int.toNat_natCast, i9 j (by omega)]
    refine lt_i (lt_i ?_)
    have hlt : ∀ q, q < sN S → ab' q < 2 ^ sN S := fun q hq => (hok' q (by omega)).1
    refine LQ2_for (sN S) (fun i b => b = ((orS ab' (ab' j) i : Nat) : Int)) 0 rfl (by omega) rfl (fun Z i b hi hb hZ => ?_) (fun Z b hb => ?_)
    · refine w_if2 ⟨by omega, by omega⟩ (by rw [e1]; constructor <;> omega) (fun e => absurd e (by rw [e1]; omega)) (fun _ => ⟨⟨by omega, by omega⟩, ?_⟩)
      have b1 := p30 hn (orS_lt (hlt j hj) hlt i (by omega))
      have b2 := p30 hn (hlt i hi)
      refine w_X10_has (p30 hn (hlt j hj)) (by omega) (fun hb1 => w_t rg1 ⟨⟨by omega, by omega⟩, ?_⟩) (fun hb1 => w_f rg0 ?_)
      · rw [Int.toNat_natCast, i9 i (by omega), hb, ior_n (by omega) (by omega)]
        refine hZ _ ?_
        rw [orS, if_pos hb1]
      · rw [hb, ior_z (by omega)]
        refine hZ _ ?_
        rw [orS, if_neg (by rw [hb1]; decide)]
    · subst hb
      have b1 := orS_lt (hlt j hj) hlt (sN S) (Nat.le_refl _)
      have b2 := p30 hn b1
      have b3 := p30 hn (hlt j hj)
      refine w_if2 ⟨by omega, by omega⟩ (by rw [e1]; constructor <;> omega) (fun _ => ⟨⟨by omega, by omega⟩, ?_⟩) (fun e => absurd e (by rw [e1]; omega))
      have sub : ∀ q, (ab' j).testBit q = true → (orS ab' (ab' j) (sN S)).testBit q = true := fun q hq => (orS_bit ab' (ab' j) q (sN S)).mpr (Or.inl hq)
      have hrow : Row (kup z2 9 j ((orS ab' (ab' j) (sN S) : Nat) : Int)) 9 (fup ab' j (orS ab' (ab' j) (sN S))) := i9.up
      have hok'' : ∀ p, p < 30 → (fup ab' j (orS ab' (ab' j) (sN S))) p < 2 ^ sN S ∧ (∀ q, (ab p).testBit q = true → ((fup ab' j (orS ab' (ab' j) (sN S))) p).testBit q = true) ∧ ∀ q, ((fup ab' j (orS ab' (ab' j) (sN S))) p).testBit q = true → Rch (prOf S) p q := fun p hp => by
        by_cases e : p = j
        · subst e
          rw [fup_eq]
          refine ⟨b1, fun q hq => sub q ((hok' p hp).2.1 q hq), fun q hq => ?_⟩
          rcases (orS_bit ab' (ab' p) q (sN S)).mp hq with h1 | ⟨r, h1, h2, h3⟩
          · exact (hok' p hp).2.2 q h1
          · exact ((hok' p hp).2.2 r h2).tr ((hok' r (by omega)).2.2 q h3)
        · rw [fup_ne e]; exact hok' p hp
      have f7 : Row (kup z2 9 j ((orS ab' (ab' j) (sN S) : Nat) : Int)) 7 (moOf S) := i7.to (by funext q; exact kup_c (by decide))
      have f8 : Row (kup z2 9 j ((orS ab' (ab' j) (sN S) : Nat) : Int)) 8 (faOf S) := i8.to (by funext q; exact kup_c (by decide))
      have fr : ∀ c, c ≠ 7 → c ≠ 8 → c ≠ 9 → (kup z2 9 j ((orS ab' (ab' j) (sN S) : Nat) : Int)) c = z c := fun c h7 h8 h9 => by funext q; rw [kup_c h9, hfr c h7 h8 h9]
      have rw0 : rg w := by rcases hw with rfl | rfl <;> constructor <;> omega
      refine ⟨⟨by omega, by omega⟩, ⟨by omega, by omega⟩, w_ite (fun e => ?_) (fun e => ?_)⟩
      · have e : orS ab' (ab' j) (sN S) = ab' j := by omega
        refine lt_i ⟨⟨by omega, by omega⟩, hp_i ?_⟩
        have hz : ior w 0 = w := by rcases hw with rfl | rfl <;> decide +kernel
        rw [hz]
        refine hY _ _ ⟨_, hrow, hw, hok'', fun w0 => ?_, fun w1 => ?_, f7, f8, fr⟩
        · obtain ⟨c1, c2⟩ := hcl' w0
          rw [e]
          subst c1
          refine ⟨?_, fun p hp q hq hpq r hqr => ?_⟩
          · funext p
            by_cases q : p = j
            · subst q; rw [fup_eq]
            · rw [fup_ne q]
          · by_cases q' : p = j
            · subst q'
              rw [← e]
              exact (orS_bit ab' (ab' p) r (sN S)).mpr (Or.inr ⟨q, hq, hpq, hqr⟩)
            · exact c2 p (by omega) q hq hpq r hqr
        · obtain ⟨p, hp, hpne⟩ := hne w1
          refine ⟨p, hp, ?_⟩
          by_cases q : p = j
          · subst q; rw [fup_eq, e]; exact hpne
          · rw [fup_ne q]; exact hpne
      · refine lt_i ⟨⟨by omega, by omega⟩, hp_i ?_⟩
        have hz : ior w 1 = 1 := by rcases hw with rfl | rfl <;> decide +kernel
        rw [hz]
        refine hY _ _ ⟨_, hrow, Or.inr rfl, hok'', fun w0 => absurd w0 (by decide), fun _ => ⟨j, by omega, ?_⟩, f7, f8, fr⟩
        rw [fup_eq]
        have l1 := sub_le (hok' j (by omega)).2.1
        have l2 := sub_le sub
        omega
  · obtain ⟨ab', i9, hw, hok', hcl', hne, i7, i8, hfr⟩ := hI
    have e1 : z2 1 = S := by rw [hfr 1 (by decide) (by decide) (by decide), hS]
    refine w_if2 ⟨by omega, by omega⟩ (by rw [e1]; constructor <;> omega) (fun _ => ?_) (fun e => absurd e (by rw [e1]; omega))
    have hle : sumTo ab 30 ≤ sumTo ab' 30 := sumTo_le 30 (fun i hi => sub_le (hok' i hi).2.1)
    have hub : sumTo ab' 30 ≤ 30 * 1073741824 := by
      have : sumTo ab' 30 ≤ sumTo (fun _ => 1073741824) 30 := sumTo_le 30 (fun i hi => Nat.le_of_lt (p30 hn (hok' i hi).1))
      rw [sumTo_const] at this
      exact this
    refine hX (30 * 1073741824 + (if w = 0 then 0 else 1) - sumTo ab' 30) w z2 ?_ ⟨ab', i9, ?_, hw, fun p hp => ⟨(hok' p hp).1, fun q hq => (hok' p hp).2.1 q ((hok p hp).2.1 q hq), (hok' p hp).2.2⟩, fun w0 => ?_, i7, i8, hfr⟩
    · rcases hw with rfl | rfl
      · rw [if_pos rfl]; omega
      · rw [if_neg (by decide)]
        obtain ⟨p, hp, hpne⟩ := hne rfl
        have := sumTo_lt 30 (fun i hi => sub_le (hok' i hi).2.1) ⟨p, hp, bnot_lt (hok' p hp).2.1 (fun q => hpne q.symm)⟩
        omega
    · rcases hw with rfl | rfl
      · rw [if_pos rfl]; omega
      · rw [if_neg (by decide)]; omega
    · obtain ⟨c1, c2⟩ := hcl' w0
      subst c1
      exact c2
