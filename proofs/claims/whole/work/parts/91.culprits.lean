/-! culprits -/
theorem LP3_for {F : (Int → Int → Int → Hp → Prop) → Int → Int → Int → Hp → Prop} (N : Nat) (I : Nat → Int → Int → Hp → Prop) {a b i : Int} {z : Hp} (k : Nat) (hi : i = k) (hk : k ≤ N) (h0 : I k a b z) (step : ∀ (X : Int → Int → Int → Hp → Prop) (j : Nat) (a b : Int) (z : Hp), j < N → I j a b z → (∀ a' b' z', I (j + 1) a' b' z' → X a' b' ((j : Int) + 1) z') → F X a b j z) (last : ∀ (X : Int → Int → Int → Hp → Prop) (a b : Int) (z : Hp), I N a b z → F X a b N z) : LP3 F a b i z := by
  refine LP3_ind (fun n a b c z => ∃ j : Nat, c = j ∧ j ≤ N ∧ n = N - j ∧ I j a b z) (fun X n a b c z h ih => ?_) (n := N - k) ⟨k, hi, hk, rfl, h0⟩
  obtain ⟨j, rfl, hj, rfl, hI⟩ := h
  by_cases e : j = N
  · subst e; exact last X a b z hI
  · exact step X j a b z (by omega) hI (fun a' b' z' h => ih (N - (j + 1)) a' b' _ z' (by omega) ⟨j + 1, by omega, by omega, rfl, h⟩)
theorem getD_snocN {L : List Nat} {a i : Nat} (hi : i < L.length) : (L ++ [a]).getD i 0 = L.getD i 0 := by
  rw [List.getD_eq_getElem?_getD, List.getD_eq_getElem?_getD, List.getElem?_append_left hi]
theorem getD_lastN {L : List Nat} {a : Nat} : (L ++ [a]).getD L.length 0 = a := by
  rw [List.getD_eq_getElem?_getD, List.getElem?_append_right (Nat.le_refl _), Nat.sub_self]
  rfl
theorem Said.snoc {z : Hp} {c t : Nat} {L : List Nat} (h : Said z c L) : Said (kup z c L.length (t : Int)) c (L ++ [t]) := fun j hj => by
  rw [List.length_append, List.length_singleton] at hj
  by_cases g : j = L.length
  · subst g; rw [kup_eq, getD_lastN]
  · rw [pt_ne g, getD_snocN (by omega)]; exact h j (by omega)
/-- without it all is well -/
noncomputable def pc (S : Nat → Int) (t : Nat) : Bool := @decide (CR S (selK S t (sT S)) 0) (Classical.propDecidable _)
theorem pc_t {S : Nat → Int} {t : Nat} : pc S t = true ↔ CR S (selK S t (sT S)) 0 := by
  unfold pc
  exact @decide_eq_true_iff _ (Classical.propDecidable _)
theorem pc_cr {S : Nat → Int} {t : Nat} {c : Int} (hn : sN S ≤ 30) (h : CR S (selK S t (sT S)) c) : pc S t = true ↔ c = 0 := by
  rw [pc_t]
  exact ⟨fun q => h.uq hn q, fun q => by rw [← q]; exact h⟩
theorem sel_allR {S : Nat → Int} {w : Int} (h : SOk 60 S) : ∀ r ∈ allR S (gL S (selK S w (sT S))) (selK S w (sT S)), RlOk r ∧ 0 ≤ r.2.2.2.2 ∧ r.2.2.2.2 < 160 := fun r hr => by
  have ht := h.t
  have hls := sel_ls (w := w) (by omega : sT S ≤ 61) h.n h.2.2.2
  have hg : gGood (sN S) (gL S (selK S w (sT S))) := by have := gL_good' hls (selK S w (sT S)).length; rwa [List.take_length] at this
  have a := allR_ok (n := sN S) h.n.2 rfl hg (l := selK S w (sT S)) (fun t ht => ⟨(hls.2.2.2 t ht).2, fun _ => by have := (hls.2.2.2 t ht).1; omega⟩) r hr
  exact ⟨a.1, a.2.1, allR_ru h.n.2 (fun t ht' => by have := (hls.2.2.2 t ht').1; omega) r hr⟩
theorem lvK_len' (S : Nat → Int) : ∀ k, (lvK S k).length ≤ k := fun k => by rw [← selK_neg]; exact selK_len S (-1) k
theorem filter_len {p : Nat → Bool} (l : List Nat) : (l.filter p).length ≤ l.length := List.length_filter_le p l
set_option maxHeartbeats 1000000 in
theorem w_settleCulprits {zC zM : Hp} {K : Hp → Prop} (h : Inv zC zM) (h8 : zC 0 8 = 1) (k : ∀ z' : Hp, Inv z' zM → z' 0 10 = (((lv (zM 1)).filter (pc (zM 1))).length : Int) → Said z' 132 ((lv (zM 1)).filter (pc (zM 1))) → K z') : cal_X9_settleCulprits zC K := by
  have hh := h
  obtain ⟨h1, ⟨b0, b1, b2, b3, b4, b5⟩, _, _, _, _, h7, hi⟩ := h
  have hn := h1.n
  have ht := h1.t
  rcases hi with ⟨a, _⟩ | ⟨_, hW, hO, hc⟩
  · exact absurd (a.symm.trans h8) (by decide)
  rcases hc with hc | ⟨hc, p, cs, q1, q2, q3, q4⟩
  rotate_left
  · refine w_if (by rw [hc]; exact rg1) (fun e => absurd (hc.symm.trans e) (by decide)) (fun _ => ?_)
    have e : cs = (lv (zM 1)).filter (pc (zM 1)) := by
      rw [q2]
      refine List.filter_congr (fun t ht => ?_)
      have := q1 t ht
      rw [← pc_t] at this
      cases hp : p t <;> cases hq : pc (zM 1) t <;> simp_all
    rw [← e] at k
    exact k zC hh q3 q4
  refine w_if (by rw [hc]; exact rg0) (fun _ => hp_i (lt_i ?_)) (fun e => absurd hc e)
  have sw : Said zC 87 (lv (zM 1)) := hW.2.1
  have ll : (lv (zM 1)).length ≤ 60 := by have := lvK_len' (zM 1) (sT (zM 1)); unfold lv; omega
  refine LP1_for (lv (zM 1)).length (fun j z' => z' 0 10 = ((((lv (zM 1)).take j).filter (pc (zM 1))).length : Int) ∧ Said z' 132 (((lv (zM 1)).take j).filter (pc (zM 1))) ∧ (∀ i, i ≠ 10 → z' 0 i = zC 0 i) ∧ (∀ c, c ≠ 0 → c ≠ 132 → (c < 109 ∨ 130 < c) → z' c = zC c)) 0 rfl (by omega) ⟨?_, fun j hj => absurd hj (by simp), fun i hi => pt_ne hi, fun c c0 _ _ => by funext i; exact kup_c c0⟩ (fun X j z1 hj hI hX => ?_) (fun X z1 hI => ?_)
  · rw [kup_eq]; rfl
  · obtain ⟨i1, i2, i3, i4⟩ := hI
    have e86 : z1 86 1 = ((lv (zM 1)).length : Int) := by rw [i4 86 (by decide) (by decide) (by decide)]; exact hW.1
    have e87 : z1 87 j = (((lv (zM 1)).getD j 0 : Nat) : Int) := by rw [i4 87 (by decide) (by decide) (by decide)]; exact sw j hj
    have hm : (lv (zM 1)).getD j 0 ∈ lv (zM 1) := getD_mem hj
    have htm := lvK_lt hm
    have fl : ∀ k, (((lv (zM 1)).take k).filter (pc (zM 1))).length ≤ k := fun k => by
      have := filter_len (p := pc (zM 1)) ((lv (zM 1)).take k)
      have := List.length_take_le k (lv (zM 1))
      omega
    have hsn : (lv (zM 1)).take (j + 1) = (lv (zM 1)).take j ++ [(lv (zM 1)).getD j 0] := take_snoc hj
    have fl1 := fl j
    rw [hsn] at hX
    rw [Int.toNat_natCast, e86, e87]
    generalize (lv (zM 1)).getD j 0 = t at *
    have e11 : z1 1 1 = ((sT (zM 1) : Nat) : Int) := by rw [i4 1 (by decide) (by decide) (by decide), b1]; exact ht.1
    rw [e11]
    refine w_if2 ⟨by omega, by omega⟩ ⟨by omega, by omega⟩ (fun e => absurd e (by omega)) (fun _ => ⟨⟨by omega, by omega⟩, ?_⟩)
    refine w_X8_work (t := 109) (r1 := 1) (m := sT (zM 1)) (w := (t : Int)) (F := 125) (S := zM 1) (by omega) (by omega) ⟨by omega, by omega⟩ ⟨by omega, by omega⟩ hn (fun t ht' => ⟨h1.2.2.2 t ht', fun _ => by omega⟩) (b2.cg2 (fun _ _ _ _ => rfl) (fun c u c1 c2 _ => by rw [i4 c (by omega) (by omega) (by omega)])) (by rw [i4 1 (by decide) (by decide) (by decide)]; exact b0) (fun p hp => ?_) (fun u hu => ?_) (fun z2 hw hf => ?_)
    · rw [i4 (1 + 33) (by decide) (by decide) (by decide)]; exact ⟨(b4 p hp).1, (h1.2.2.1 p hp).2⟩
    · rw [i4 (1 + 39) (by decide) (by decide) (by decide)]; exact b3 u hu
    have hcr := hw.cr (by decide) (sel_allR h1)
    have iff := pc_cr hn.2 hcr
    have r109 : 0 ≤ z2 109 4 ∧ z2 109 4 ≤ 4 := by
      obtain ⟨_, _, ab, cl, wh, _, hlk, _, hc⟩ := hw
      obtain ⟨bd, _, _⟩ := hlk.bd hn.2
      rcases hc with ⟨_, e, _⟩ | ⟨_, _, _, ⟨e, _⟩ | ⟨e, _⟩⟩ <;> omega
    have f0 : ∀ i, z2 0 i = z1 0 i := fun i => by rw [hf 0 (by omega)]
    by_cases c : z2 109 4 = 0
    · have hfl : ((lv (zM 1)).take j ++ [t]).filter (pc (zM 1)) = ((lv (zM 1)).take j).filter (pc (zM 1)) ++ [t] := by
        rw [List.filter_append, List.filter_cons_of_pos (iff.mpr c)]; rfl
      rw [hfl] at hX
      have i1' : z2 0 10 = ((((lv (zM 1)).take j).filter (pc (zM 1))).length : Int) := by rw [f0]; exact i1
      have i2' : Said z2 132 (((lv (zM 1)).take j).filter (pc (zM 1))) := fun x hx => by rw [hf 132 (by omega)]; exact i2 x hx
      have e87' : z2 87 j = (t : Int) := by rw [hf 87 (by omega)]; exact e87
      generalize ((lv (zM 1)).take j).filter (pc (zM 1)) = L at *
      refine jn_i (fun J => J (kup (kup z2 132 L.length (t : Int)) 0 10 ((L.length : Int) + 1))) (lt_i (hX _ ⟨?_, fun x hx => ?_, fun i hi => ?_, fun c c0 c1 c2 => ?_⟩)) (fun J hJ => w_if ⟨by omega, by omega⟩ (fun _ => w_if ⟨by omega, by omega⟩ (fun e => absurd e (by omega)) (fun _ => ⟨⟨by omega, by omega⟩, ⟨by omega, by omega⟩, hp_i (hp_i ?_)⟩)) (fun e => absurd c e))
      · rw [kup_eq, List.length_append, List.length_singleton]; omega
      · rw [kup_c (by decide)]; exact i2'.snoc x hx
      · rw [pt_ne hi, kup_c (by decide), f0]; exact i3 i hi
      · rw [← i4 c c0 c1 c2, ← hf c (by omega)]; funext i; rw [kup_c c0, kup_c c1]
      · rw [i1', kup_c (by decide), i1', Int.toNat_natCast, e87']
        exact hJ
    · have hfl : ((lv (zM 1)).take j ++ [t]).filter (pc (zM 1)) = ((lv (zM 1)).take j).filter (pc (zM 1)) := by
        rw [List.filter_append, List.filter_cons_of_neg (fun q => c (iff.mp q))]; simp
      rw [hfl] at hX
      exact jn_i (fun J => J z2) (lt_i (hX _ ⟨by rw [f0]; exact i1, fun x hx => by rw [hf 132 (by omega)]; exact i2 x hx, fun i hi => by rw [f0]; exact i3 i hi, fun c c0 c1 c2 => by rw [hf c (by omega)]; exact i4 c c0 c1 c2⟩)) (fun J hJ => w_if ⟨by omega, by omega⟩ (fun e => absurd e c) (fun _ => hJ))
  · obtain ⟨i1, i2, i3, i4⟩ := hI
    rw [List.take_length] at i1 i2
    have e86 : z1 86 1 = ((lv (zM 1)).length : Int) := by rw [i4 86 (by decide) (by decide) (by decide)]; exact hW.1
    rw [e86]
    refine w_if2 ⟨by omega, by omega⟩ ⟨by omega, by omega⟩ (fun _ => hp_i ?_) (fun e => absurd (Int.le_refl _) e)
    have cc : ∀ c, c ≠ 0 → kup z1 0 11 1 c = z1 c := fun c c0 => by funext i; exact kup_c c0
    have c10 : kup z1 0 11 1 0 10 = (((lv (zM 1)).filter (pc (zM 1))).length : Int) := by rw [pt_ne (by decide)]; exact i1
    have s132 : Said (kup z1 0 11 1) 132 ((lv (zM 1)).filter (pc (zM 1))) := fun x hx => by rw [kup_c (by decide)]; exact i2 x hx
    refine k _ (hh.cls (fun c hc => by rw [cc c (by omega)]; exact i4 c (by omega) (by omega) (by omega)) (by rw [pt_ne (by decide)]; exact i3 2 (by decide)) (Or.inr ⟨by rw [pt_ne (by decide), i3 8 (by decide)]; exact h8, hW.to (fun c c1 c2 => by rw [cc c (by omega)]; exact i4 c (by omega) (by omega) (by omega)), ?_, Or.inr ⟨kup_eq, pc (zM 1), _, fun t _ => pc_t, rfl, c10, s132⟩⟩)) c10 s132
    obtain ⟨L, o1, o2⟩ := hO
    exact ⟨L, by rw [cc 100 (by decide), i4 100 (by decide) (by decide) (by decide)]; exact o1, fun x hx => by rw [cc 108 (by decide), i4 108 (by decide) (by decide) (by decide)]; exact o2 x hx⟩
