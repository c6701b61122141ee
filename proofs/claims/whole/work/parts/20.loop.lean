/-! PURE: no machine from here on. Rules for loops; bits. -/
theorem w_if {c : Prop} [Decidable c] {A B P : Prop} (hp : P) (ht : c → A) (hf : ¬ c → B) : P ∧ (if c then A else B) := ⟨hp, by by_cases h : c; · rw [if_pos h]; exact ht h
                                                                                                                                · rw [if_neg h]; exact hf h⟩
theorem w_ite {c : Prop} [Decidable c] {A B : Prop} (ht : c → A) (hf : ¬ c → B) : (if c then A else B) := (w_if (P := True) trivial ht hf).2
theorem LQ1_ind {F : (Int → Prop) → Int → Prop} (I : Nat → Int → Prop) (step : ∀ (X : Int → Prop) (n : Nat) (a : Int), I n a → (∀ (m : Nat) (a' : Int), m < n → I m a' → X a') → F X a) {n : Nat} {a : Int} (h : I n a) : LQ1 F a := fun X hX => by
  have : ∀ (n : Nat) (a : Int), I n a → X a := fun n => by
    induction n using Nat.strongRecOn with
    | _ n ih => exact fun a h => hX a (step X n a h (fun m a' hm h' => ih m hm a' h'))
  exact this n a h
theorem LQ2_ind {F : (Int → Int → Prop) → Int → Int → Prop} (I : Nat → Int → Int → Prop) (step : ∀ (X : Int → Int → Prop) (n : Nat) (a b : Int), I n a b → (∀ (m : Nat) (a' b' : Int), m < n → I m a' b' → X a' b') → F X a b) {n : Nat} {a b : Int} (h : I n a b) : LQ2 F a b := fun X hX => by
  have : ∀ (n : Nat) (a b : Int), I n a b → X a b := fun n => by
    induction n using Nat.strongRecOn with
    | _ n ih => exact fun a b h => hX a b (step X n a b h (fun m a' b' hm h' => ih m hm a' b' h'))
  exact this n a b h
theorem LP0_ind {F : (Hp → Prop) → Hp → Prop} (I : Nat → Hp → Prop) (step : ∀ (X : Hp → Prop) (n : Nat) (z : Hp), I n z → (∀ (m : Nat) (z' : Hp), m < n → I m z' → X z') → F X z) {n : Nat} {z : Hp} (h : I n z) : LP0 F z := fun X hX => by
  have : ∀ (n : Nat) (z : Hp), I n z → X z := fun n => by
    induction n using Nat.strongRecOn with
    | _ n ih => exact fun z h => hX z (step X n z h (fun m z' hm h' => ih m hm z' h'))
  exact this n z h
theorem LP1_ind {F : (Int → Hp → Prop) → Int → Hp → Prop} (I : Nat → Int → Hp → Prop) (step : ∀ (X : Int → Hp → Prop) (n : Nat) (a : Int) (z : Hp), I n a z → (∀ (m : Nat) (a' : Int) (z' : Hp), m < n → I m a' z' → X a' z') → F X a z) {n : Nat} {a : Int} {z : Hp} (h : I n a z) : LP1 F a z := fun X hX => by
  have : ∀ (n : Nat) (a : Int) (z : Hp), I n a z → X a z := fun n => by
    induction n using Nat.strongRecOn with
    | _ n ih => exact fun a z h => hX a z (step X n a z h (fun m a' z' hm h' => ih m hm a' z' h'))
  exact this n a z h
theorem LP2_ind {F : (Int → Int → Hp → Prop) → Int → Int → Hp → Prop} (I : Nat → Int → Int → Hp → Prop) (step : ∀ (X : Int → Int → Hp → Prop) (n : Nat) (a b : Int) (z : Hp), I n a b z → (∀ (m : Nat) (a' b' : Int) (z' : Hp), m < n → I m a' b' z' → X a' b' z') → F X a b z) {n : Nat} {a b : Int} {z : Hp} (h : I n a b z) : LP2 F a b z := fun X hX => by
  have : ∀ (n : Nat) (a b : Int) (z : Hp), I n a b z → X a b z := fun n => by
    induction n using Nat.strongRecOn with
    | _ n ih => exact fun a b z h => hX a b z (step X n a b z h (fun m a' b' z' hm h' => ih m hm a' b' z' h'))
  exact this n a b z h
theorem LP3_ind {F : (Int → Int → Int → Hp → Prop) → Int → Int → Int → Hp → Prop} (I : Nat → Int → Int → Int → Hp → Prop) (step : ∀ (X : Int → Int → Int → Hp → Prop) (n : Nat) (a b c : Int) (z : Hp), I n a b c z → (∀ (m : Nat) (a' b' c' : Int) (z' : Hp), m < n → I m a' b' c' z' → X a' b' c' z') → F X a b c z) {n : Nat} {a b c : Int} {z : Hp} (h : I n a b c z) : LP3 F a b c z := fun X hX => by
  have : ∀ (n : Nat) (a b c : Int) (z : Hp), I n a b c z → X a b c z := fun n => by
    induction n using Nat.strongRecOn with
    | _ n ih => exact fun a b c z h => hX a b c z (step X n a b c z h (fun m a' b' c' z' hm h' => ih m hm a' b' c' z' h'))
  exact this n a b c z h
/-- counted loops: the index is the last integer; what goes round ahead of it stands in the invariant -/
theorem LQ1_for {F : (Int → Prop) → Int → Prop} (N : Nat) (I : Nat → Prop) {i : Int} (k : Nat) (hi : i = k) (hk : k ≤ N) (h0 : I k) (step : ∀ (X : Int → Prop) (j : Nat), j < N → I j → (I (j + 1) → X ((j : Int) + 1)) → F X j) (last : ∀ X : Int → Prop, I N → F X N) : LQ1 F i := by
  refine LQ1_ind (fun n a => ∃ j : Nat, a = j ∧ j ≤ N ∧ n = N - j ∧ I j) (fun X n a h ih => ?_) (n := N - k) ⟨k, hi, hk, rfl, h0⟩
  obtain ⟨j, rfl, hj, rfl, hI⟩ := h
  by_cases e : j = N
  · subst e; exact last X hI
  · exact step X j (by omega) hI (fun h => ih (N - (j + 1)) _ (by omega) ⟨j + 1, by omega, by omega, rfl, h⟩)
theorem LQ2_for {F : (Int → Int → Prop) → Int → Int → Prop} (N : Nat) (I : Nat → Int → Prop) {a i : Int} (k : Nat) (hi : i = k) (hk : k ≤ N) (h0 : I k a) (step : ∀ (X : Int → Int → Prop) (j : Nat) (a : Int), j < N → I j a → (∀ a', I (j + 1) a' → X a' ((j : Int) + 1)) → F X a j) (last : ∀ (X : Int → Int → Prop) (a : Int), I N a → F X a N) : LQ2 F a i := by
  refine LQ2_ind (fun n a b => ∃ j : Nat, b = j ∧ j ≤ N ∧ n = N - j ∧ I j a) (fun X n a b h ih => ?_) (n := N - k) ⟨k, hi, hk, rfl, h0⟩
  obtain ⟨j, rfl, hj, rfl, hI⟩ := h
  by_cases e : j = N
  · subst e; exact last X a hI
  · exact step X j a (by omega) hI (fun a' h => ih (N - (j + 1)) a' _ (by omega) ⟨j + 1, by omega, by omega, rfl, h⟩)
theorem LP1_for {F : (Int → Hp → Prop) → Int → Hp → Prop} (N : Nat) (I : Nat → Hp → Prop) {i : Int} {z : Hp} (k : Nat) (hi : i = k) (hk : k ≤ N) (h0 : I k z) (step : ∀ (X : Int → Hp → Prop) (j : Nat) (z : Hp), j < N → I j z → (∀ z', I (j + 1) z' → X ((j : Int) + 1) z') → F X j z) (last : ∀ (X : Int → Hp → Prop) (z : Hp), I N z → F X N z) : LP1 F i z := by
  refine LP1_ind (fun n b z => ∃ j : Nat, b = j ∧ j ≤ N ∧ n = N - j ∧ I j z) (fun X n b z h ih => ?_) (n := N - k) ⟨k, hi, hk, rfl, h0⟩
  obtain ⟨j, rfl, hj, rfl, hI⟩ := h
  by_cases e : j = N
  · subst e; exact last X z hI
  · exact step X j z (by omega) hI (fun z' h => ih (N - (j + 1)) _ z' (by omega) ⟨j + 1, by omega, by omega, rfl, h⟩)
theorem LP2_for {F : (Int → Int → Hp → Prop) → Int → Int → Hp → Prop} (N : Nat) (I : Nat → Int → Hp → Prop) {a i : Int} {z : Hp} (k : Nat) (hi : i = k) (hk : k ≤ N) (h0 : I k a z) (step : ∀ (X : Int → Int → Hp → Prop) (j : Nat) (a : Int) (z : Hp), j < N → I j a z → (∀ a' z', I (j + 1) a' z' → X a' ((j : Int) + 1) z') → F X a j z) (last : ∀ (X : Int → Int → Hp → Prop) (a : Int) (z : Hp), I N a z → F X a N z) : LP2 F a i z := by
  refine LP2_ind (fun n a b z => ∃ j : Nat, b = j ∧ j ≤ N ∧ n = N - j ∧ I j a z) (fun X n a b z h ih => ?_) (n := N - k) ⟨k, hi, hk, rfl, h0⟩
  obtain ⟨j, rfl, hj, rfl, hI⟩ := h
  by_cases e : j = N
  · subst e; exact last X a z hI
  · exact step X j a z (by omega) hI (fun a' z' h => ih (N - (j + 1)) a' _ z' (by omega) ⟨j + 1, by omega, by omega, rfl, h⟩)
/-! bits of numbers below 2 ^ 31 -/
theorem nbv {a : Nat} : (Int32.ofInt (a : Int)).toBitVec = BitVec.ofNat 32 a := by
  show BitVec.ofInt 32 (a : Int) = _
  exact BitVec.ofInt_natCast 32 a
theorem ntoI {x : Int32} (h : x.toBitVec.toNat < 2147483648) : x.toInt = (x.toBitVec.toNat : Int) := by
  show x.toBitVec.toInt = _
  exact BitVec.toInt_eq_toNat_of_lt (by omega)
theorem ior_n {a b : Nat} (ha : a < 2147483648) (hb : b < 2147483648) : ior a b = ((a ||| b : Nat) : Int) := by
  have h : (a ||| b) < 2 ^ 31 := Nat.or_lt_two_pow ha hb
  have e : (Int32.ofInt a ||| Int32.ofInt b).toBitVec.toNat = a ||| b := by
    rw [Int32.toBitVec_or, nbv, nbv, BitVec.toNat_or, BitVec.toNat_ofNat, BitVec.toNat_ofNat, Nat.mod_eq_of_lt (by omega), Nat.mod_eq_of_lt (by omega)]
  unfold ior
  rw [ntoI (by rw [e]; exact h), e]
theorem iand_n {a b : Nat} (ha : a < 2147483648) (hb : b < 2147483648) : iand a b = ((a &&& b : Nat) : Int) := by
  have h : (a &&& b) < 2 ^ 31 := Nat.and_lt_two_pow a hb
  have e : (Int32.ofInt a &&& Int32.ofInt b).toBitVec.toNat = a &&& b := by
    rw [Int32.toBitVec_and, nbv, nbv, BitVec.toNat_and, BitVec.toNat_ofNat, BitVec.toNat_ofNat, Nat.mod_eq_of_lt (by omega), Nat.mod_eq_of_lt (by omega)]
  unfold iand
  rw [ntoI (by rw [e]; exact h), e]
