/-! texts: what stands on a tape or a paper -/
def Txt (z : Hp) (t : Nat) (L : List Int) : Prop := z t 1 = (L.length : Int) ∧ ∀ i, i < L.length → z (t + 1) i = L.getD i 0
def TxM (z : Hp) (L : List Int) : Prop := z 0 7 = (L.length : Int) ∧ ∀ i, i < L.length → z 4 i = L.getD i 0
def TF (t : Nat) (z z' : Hp) : Prop := (∀ j, j ≠ 1 → z' t j = z t j) ∧ ∀ c, c ≠ t → c ≠ t + 1 → z' c = z c
def MF (z z' : Hp) : Prop := (∀ j, j ≠ 7 → z' 0 j = z 0 j) ∧ ∀ c, c ≠ 0 → c ≠ 4 → z' c = z c
theorem TF.rf {t : Nat} {z : Hp} : TF t z z := ⟨fun _ _ => rfl, fun _ _ _ => rfl⟩
theorem TF.tr {t : Nat} {z z' z'' : Hp} (h : TF t z z') (h' : TF t z' z'') : TF t z z'' := ⟨fun j a => by rw [h'.1 j a, h.1 j a], fun c a b => by rw [h'.2 c a b, h.2 c a b]⟩
theorem MF.rf {z : Hp} : MF z z := ⟨fun _ _ => rfl, fun _ _ _ => rfl⟩
theorem MF.tr {z z' z'' : Hp} (h : MF z z') (h' : MF z' z'') : MF z z'' := ⟨fun j a => by rw [h'.1 j a, h.1 j a], fun c a b => by rw [h'.2 c a b, h.2 c a b]⟩
theorem getD_snoc {L : List Int} {a : Int} {i : Nat} (hi : i < L.length) : (L ++ [a]).getD i 0 = L.getD i 0 := by
  rw [List.getD_eq_getElem?_getD, List.getElem?_append_left hi, ← List.getD_eq_getElem?_getD]
theorem getD_last {L : List Int} {a : Int} : (L ++ [a]).getD L.length 0 = a := by
  rw [List.getD_eq_getElem?_getD, List.getElem?_append_right (Nat.le_refl _), Nat.sub_self]; rfl
theorem w_put {t : Nat} {a : Int} {L : List Int} {z : Hp} {K : Hp → Prop} (h : Txt z t L) (hl : L.length < klT t) (hk : klT t ≤ 400) (ha : by8 a) (k : ∀ z' : Hp, Txt z' t (L ++ [a]) → TF t z z' → K z') : cal_X5_put t a z K := by
  obtain ⟨h1, h2⟩ := h
  unfold cal_X5_put
  rw [h1]
  refine ⟨⟨by omega, by omega⟩, ⟨by omega, by omega⟩, ?_⟩
  rw [if_neg (by omega), Int.toNat_natCast]
  refine ⟨ha, ha, ⟨by omega, by omega⟩, hp_i (hp_i (k _ ⟨?_, fun i hi => ?_⟩ ⟨fun j hj => ?_, fun c c0 c1 => ?_⟩))⟩
  · rw [kup_eq, kup_c (by omega), h1, List.length_append, List.length_singleton]; omega
  · rw [List.length_append, List.length_singleton] at hi
    rw [kup_c (by omega)]
    by_cases e : i = L.length
    · subst e; rw [kup_eq, getD_last]
    · rw [kup_n (fun q => e q.2), getD_snoc (by omega)]; exact h2 i (by omega)
  · rw [kup_n (fun q => hj q.2), kup_c (by omega)]
  · funext q; rw [kup_c c0, kup_c c1]
theorem w_writes {a : Int} {L : List Int} {z : Hp} {K : Hp → Prop} (h : TxM z L) (hl : L.length < 640) (k : ∀ z' : Hp, TxM z' (L ++ [a]) → MF z z' → K z') : cal_X10_writes a z K := by
  obtain ⟨h1, h2⟩ := h
  unfold cal_X10_writes
  rw [h1, Int.toNat_natCast]
  refine ⟨⟨by omega, by omega⟩, hp_i (hp_i (k _ ⟨?_, fun i hi => ?_⟩ ⟨fun j hj => ?_, fun c c0 c1 => ?_⟩))⟩
  · rw [kup_eq, kup_c (by decide), h1, List.length_append, List.length_singleton]; omega
  · rw [List.length_append, List.length_singleton] at hi
    rw [kup_c (by decide)]
    by_cases e : i = L.length
    · subst e; rw [kup_eq, getD_last]
    · rw [kup_n (fun q => e q.2), getD_snoc (by omega)]; exact h2 i (by omega)
  · rw [kup_n (fun q => hj q.2), kup_c (by decide)]
  · funext q; rw [kup_c c0, kup_c c1]
theorem take_snocI {l : List Int} {j : Nat} (h : j < l.length) : l.take (j + 1) = l.take j ++ [l.getD j 0] := by
  rw [List.take_succ, List.getD_eq_getElem?_getD, List.getElem?_eq_getElem h]
  rfl
theorem w_putAll {t s : Nat} {L : List Int} {z : Hp} {K : Hp → Prop} (h : Txt z t L) (hl : L.length + (kTx s).length ≤ klT t) (hk : klT t ≤ 400) (ha : s < kstrL.length) (k : ∀ z' : Hp, Txt z' t (L ++ kTx s) → TF t z z' → K z') : cal_X5_putAll t s z K := by
  show LP1 _ 0 z
  refine LP1_for (kTx s).length (fun j z' => Txt z' t (L ++ (kTx s).take j) ∧ TF t z z') 0 rfl (by omega) ⟨by rw [List.take_zero, List.append_nil]; exact h, TF.rf⟩ (fun X j z1 hj hI hX => ?_) (fun X z1 hI => ?_)
  · obtain ⟨i1, i2⟩ := hI
    refine w_if2 ⟨by omega, by omega⟩ ⟨by omega, by omega⟩ (fun e => absurd e (by omega)) (fun _ => ⟨⟨by omega, by omega⟩, ?_⟩)
    rw [Int.toNat_natCast]
    have as := kTx_ascii s ha j hj
    refine w_put i1 (by rw [List.length_append, List.length_take]; omega) hk ⟨by omega, by omega⟩ (fun z2 r2 f2 => lt_i (hX z2 ⟨?_, i2.tr f2⟩))
    rw [take_snocI hj, ← List.append_assoc]
    exact r2
  · obtain ⟨i1, i2⟩ := hI
    rw [List.take_length] at i1
    exact w_if2 ⟨by omega, by omega⟩ ⟨by omega, by omega⟩ (fun _ => k z1 i1 i2) (fun e => absurd e (by omega))
theorem w_writesS {s : Nat} {L : List Int} {z : Hp} {K : Hp → Prop} (h : TxM z L) (hl : L.length + (kTx s).length ≤ 640) (k : ∀ z' : Hp, TxM z' (L ++ kTx s) → MF z z' → K z') : cal_X10_writes_ s z K := by
  show LP1 _ 0 z
  refine LP1_for (kTx s).length (fun j z' => TxM z' (L ++ (kTx s).take j) ∧ MF z z') 0 rfl (by omega) ⟨by rw [List.take_zero, List.append_nil]; exact h, MF.rf⟩ (fun X j z1 hj hI hX => ?_) (fun X z1 hI => ?_)
  · obtain ⟨i1, i2⟩ := hI
    refine w_if2 ⟨by omega, by omega⟩ ⟨by omega, by omega⟩ (fun e => absurd e (by omega)) (fun _ => ⟨⟨by omega, by omega⟩, ?_⟩)
    rw [Int.toNat_natCast]
    refine w_writes i1 (by rw [List.length_append, List.length_take]; omega) (fun z2 r2 f2 => lt_i (hX z2 ⟨?_, i2.tr f2⟩))
    rw [take_snocI hj, ← List.append_assoc]
    exact r2
  · obtain ⟨i1, i2⟩ := hI
    rw [List.take_length] at i1
    exact w_if2 ⟨by omega, by omega⟩ ⟨by omega, by omega⟩ (fun _ => k z1 i1 i2) (fun e => absurd e (by omega))
/-- a number as figures -/
def dig (n : Int) : List Int := (if n < 1000 then [] else [48 + n / 1000 % 10]) ++ ((if n < 100 then [] else [48 + n / 100 % 10]) ++ ((if n < 10 then [] else [48 + n / 10 % 10]) ++ [48 + n % 10]))
theorem dig_len (n : Int) : (dig n).length ≤ 4 ∧ (n < 1000 → (dig n).length ≤ 3) ∧ (n < 100 → (dig n).length ≤ 2) := by
  unfold dig
  by_cases a : n < 1000
  · by_cases b : n < 100
    · by_cases c : n < 10
      · simp [a, b, c]
      · simp [a, b, c]
    · by_cases c : n < 10
      · omega
      · simp [a, b, c]
  · by_cases b : n < 100
    · omega
    · by_cases c : n < 10
      · omega
      · simp [a, b, c]
theorem dig_step {n : Int} (h : 9 < n ∧ n ≤ 9999) : dig n = dig (n / 10) ++ [48 + n % 10] := by
  unfold dig
  rw [if_pos (show n / 10 < 1000 by omega)]
  by_cases a : n < 1000
  · rw [if_pos a, if_pos (show n / 10 < 100 by omega)]
    by_cases b : n < 100
    · rw [if_pos b, if_pos (show n / 10 < 10 by omega), if_neg (by omega)]; rfl
    · rw [if_neg b, if_neg (show ¬ n / 10 < 10 by omega), if_neg (by omega), show n / 10 / 10 = n / 100 by omega]; rfl
  · rw [if_neg a, if_neg (show ¬ n < 100 by omega), if_neg (show ¬ n < 10 by omega), if_neg (show ¬ n / 10 < 100 by omega), if_neg (show ¬ n / 10 < 10 by omega), show n / 10 / 100 = n / 1000 by omega, show n / 10 / 10 = n / 100 by omega]; rfl
theorem w_putNumber {t : Nat} {n : Int} {L : List Int} {z : Hp} {K : Hp → Prop} (h : Txt z t L) (hn : 0 ≤ n ∧ n ≤ 9999) (hl : L.length + (dig n).length ≤ klT t) (hk : klT t ≤ 400) (k : ∀ z' : Hp, Txt z' t (L ++ dig n) → TF t z z' → K z') : cal_X5_putNumber t n z K := by
  have len : (dig n).length = (if n < 1000 then 0 else 1) + ((if n < 100 then 0 else 1) + ((if n < 10 then 0 else 1) + 1)) := by
    unfold dig
    rw [List.length_append, List.length_append, List.length_append]
    congr 1
    · split <;> rfl
    · congr 1
      · split <;> rfl
      · congr 1
        split <;> rfl
  rw [len] at hl
  have b8 : ∀ m : Int, 0 ≤ m → by8 (48 + m % 10) := fun m hm => ⟨by omega, by omega⟩
  unfold cal_X5_putNumber
  refine jn_i (fun J => ∀ z', Txt z' t (L ++ (if n < 1000 then [] else [48 + n / 1000 % 10])) → TF t z z' → J z') (fun z1 r1 f1 => ?_) (fun J hJ => ⟨⟨by omega, by omega⟩, w_ite (fun e => ?_) (fun e => ⟨⟨by omega, by omega⟩, ⟨by omega, by omega⟩, ?_⟩)⟩)
  rotate_left
  · rw [if_pos e, List.append_nil] at hJ; exact hJ z h TF.rf
  · rw [if_neg e] at hJ
    rw [if_neg e, if_neg (show ¬ n < 100 by omega), if_neg (show ¬ n < 10 by omega)] at hl
    exact w_put h (by omega) hk (b8 _ (by omega)) (fun z' q1 q2 => hJ z' q1 q2)
  have l1 : (L ++ (if n < 1000 then [] else [48 + n / 1000 % 10])).length = L.length + (if n < 1000 then 0 else 1) := by rw [List.length_append]; congr 1; split <;> rfl
  have ed : L ++ dig n = (L ++ (if n < 1000 then [] else [48 + n / 1000 % 10])) ++ ((if n < 100 then [] else [48 + n / 100 % 10]) ++ ((if n < 10 then [] else [48 + n / 10 % 10]) ++ [48 + n % 10])) := by rw [List.append_assoc]; rfl
  rw [ed] at k
  generalize L ++ (if n < 1000 then [] else [48 + n / 1000 % 10]) = L1 at *
  refine jn_i (fun J => ∀ z', Txt z' t (L1 ++ (if n < 100 then [] else [48 + n / 100 % 10])) → TF t z z' → J z') (fun z2 r2 f2 => ?_) (fun J hJ => ⟨⟨by omega, by omega⟩, w_ite (fun e => ?_) (fun e => ⟨⟨by omega, by omega⟩, ⟨by omega, by omega⟩, ?_⟩)⟩)
  rotate_left
  · rw [if_pos e, List.append_nil] at hJ; exact hJ z1 r1 f1
  · rw [if_neg e] at hJ
    rw [if_neg e, if_neg (show ¬ n < 10 by omega)] at hl
    exact w_put r1 (by omega) hk (b8 _ (by omega)) (fun z' q1 q2 => hJ z' q1 (f1.tr q2))
  have l2 : (L1 ++ (if n < 100 then [] else [48 + n / 100 % 10])).length = L1.length + (if n < 100 then 0 else 1) := by rw [List.length_append]; congr 1; split <;> rfl
  rw [← List.append_assoc] at k
  generalize L1 ++ (if n < 100 then [] else [48 + n / 100 % 10]) = L2 at *
  refine jn_i (fun J => ∀ z', Txt z' t (L2 ++ (if n < 10 then [] else [48 + n / 10 % 10])) → TF t z z' → J z') (fun z3 r3 f3 => ?_) (fun J hJ => ⟨⟨by omega, by omega⟩, w_ite (fun e => ?_) (fun e => ⟨⟨by omega, by omega⟩, ⟨by omega, by omega⟩, ?_⟩)⟩)
  rotate_left
  · rw [if_pos e, List.append_nil] at hJ; exact hJ z2 r2 f2
  · rw [if_neg e] at hJ
    rw [if_neg e] at hl
    exact w_put r2 (by omega) hk (b8 _ (by omega)) (fun z' q1 q2 => hJ z' q1 (f2.tr q2))
  have l3 : (L2 ++ (if n < 10 then [] else [48 + n / 10 % 10])).length = L2.length + (if n < 10 then 0 else 1) := by rw [List.length_append]; congr 1; split <;> rfl
  rw [← List.append_assoc] at k
  generalize L2 ++ (if n < 10 then [] else [48 + n / 10 % 10]) = L3 at *
  exact ⟨⟨by omega, by omega⟩, w_put r3 (by omega) hk (b8 _ (by omega)) (fun z' q1 q2 => k z' q1 (f3.tr q2))⟩
theorem w_writesNumber : ∀ (f : Nat) {n : Int} {L : List Int} {z : Hp} {K : Hp → Prop}, TxM z L → (0 ≤ n ∧ n ≤ 9999) → n < 10 ^ (f + 1) → L.length + (dig n).length ≤ 640 → (∀ z' : Hp, TxM z' (L ++ dig n) → MF z z' → K z') → cal_X10_writesNumber (f + 1) n z K := fun f => by
  induction f with
  | zero =>
    intro n L z K h hn hf hl k
    have hf : n < 10 := hf
    have ed : dig n = [48 + n % 10] := by unfold dig; rw [if_pos (by omega), if_pos (by omega), if_pos (by omega)]; rfl
    rw [ed] at k hl
    rw [List.length_singleton] at hl
    exact jn_i (fun J => J z) ⟨⟨by omega, by omega⟩, w_writes h (by omega) k⟩ (fun J hJ => ⟨⟨by omega, by omega⟩, w_ite (fun _ => hJ) (fun e => absurd (show n ≤ 9 by omega) e)⟩)
  | succ f ih =>
    intro n L z K h hn hf hl k
    have hf' : n / 10 < 10 ^ (f + 1) := by
      rw [Int.pow_succ] at hf
      exact Int.ediv_lt_of_lt_mul (by decide) hf
    refine jn_i (fun J => ∀ z', TxM z' (L ++ (if n ≤ 9 then [] else dig (n / 10))) → MF z z' → J z') (fun z1 r1 f1 => ⟨⟨by omega, by omega⟩, ?_⟩) (fun J hJ => ⟨⟨by omega, by omega⟩, w_ite (fun e => ?_) (fun e => ⟨⟨by omega, by omega⟩, ?_⟩)⟩)
    · have ed : L ++ dig n = (L ++ (if n ≤ 9 then [] else dig (n / 10))) ++ [48 + n % 10] := by
        rw [List.append_assoc]
        congr 1
        by_cases e : n ≤ 9
        · rw [if_pos e]; unfold dig; rw [if_pos (by omega), if_pos (by omega), if_pos (by omega)]; rfl
        · rw [if_neg e]; exact dig_step ⟨by omega, hn.2⟩
      have ll : (L ++ dig n).length = (L ++ (if n ≤ 9 then [] else dig (n / 10))).length + 1 := by rw [ed, List.length_append, List.length_singleton]
      have l2 : (L ++ dig n).length = L.length + (dig n).length := List.length_append ..
      rw [ed] at k
      exact w_writes r1 (by omega) (fun z' q1 q2 => k z' q1 (f1.tr q2))
    · rw [if_pos e, List.append_nil] at hJ; exact hJ z h MF.rf
    · rw [if_neg e] at hJ
      have ed := dig_step ⟨show 9 < n by omega, hn.2⟩
      have ll : (dig n).length = (dig (n / 10)).length + 1 := by rw [ed, List.length_append, List.length_singleton]
      exact ih h ⟨by omega, by omega⟩ hf' (by omega) (fun z' q1 q2 => hJ z' q1 q2)
theorem IPp.of {zC zM : Hp} {L : List Int} (hl : L.length ≤ 400) (hC : Txt zC 83 L) (hM : TxM zM L) : IPp zC zM := ⟨L.length, hl, hM.1, hC.1, fun i hi => by rw [hC.2 i hi, hM.2 i hi]⟩
theorem Txt.nil {z : Hp} {t : Nat} : Txt (kup z t 1 0) t [] := ⟨kup_eq, fun i hi => absurd hi (by simp)⟩
theorem TxM.nil {z : Hp} : TxM (kup z 0 7 0) [] := ⟨kup_eq, fun i hi => absurd hi (by simp)⟩
