/-! the constructors -/
def zz0 : Hp := fun _ _ => 0
def zL : Hp := fun c j => if c = 6 ∧ j < 4 then -1 else 0
def zC0 : Hp := fun c j => if c = 142 ∧ j < 4 then -1 else 0
def zM0 : Hp := fun c j => if c = 18 ∧ j < 4 then -1 else 0
theorem Clo.app {m n : Nat} {kd kd' : Nat → Nat × Nat × Nat} (h : Clo m kd) (h' : Clo n kd') : Clo (m + n) (glue m kd kd') := by
  intro j hj
  by_cases q : j < m
  · obtain ⟨a, b, c⟩ := h j q
    rw [glue_l q]
    exact ⟨a, fun e f hf => by have := b e f hf; omega, fun e => by have := c e; omega⟩
  · obtain ⟨i, rfl⟩ : ∃ i, j = m + i := ⟨j - m, by omega⟩
    obtain ⟨a, b, c⟩ := h' i (by omega)
    rw [glue_r]
    exact ⟨a, fun e f hf => by have := b e f hf; omega, fun e => by have := c e; omega⟩
theorem glue_same {α : Type} {m : Nat} {a : α} : glue m (fun _ => a) (fun _ => a) = fun _ => a := funext fun c => by unfold glue; split <;> rfl
theorem glue_z {m : Nat} {f g : Hp} (hf : ∀ c j, f c j = 0) (hg : ∀ c j, g c j = 0) : ∀ c j, glue m f g c j = 0 := by
  intro c j
  by_cases q : c < m
  · rw [glue_l q]; exact hf c j
  · obtain ⟨i, rfl⟩ : ∃ i, c = m + i := ⟨c - m, by omega⟩
    rw [glue_r]; exact hg i j
theorem zL_of {f : Hp} (hf : ∀ c j, f c j = 0) : ∀ c, c < 5 + 1 → ∀ j, zL (c + 1) j = glue 5 f (fun _ => fun j => if j < 4 then -1 else 0) c j := by
  intro c hc j
  by_cases q : c < 5
  · rw [glue_l q, hf]
    exact if_neg (fun g => by have := g.1; omega)
  · obtain ⟨i, rfl⟩ : ∃ i, c = 5 + i := ⟨c - 5, by omega⟩
    rw [glue_r, show i = 0 by omega]
    by_cases h4 : j < 4
    · exact (if_pos ⟨rfl, h4⟩).trans (if_pos h4).symm
    · exact (if_neg (fun g => h4 g.2)).trans (if_neg h4).symm
theorem zC0_of {f : Hp} (hf : ∀ c j, f c j = 0) : ∀ c, c < 135 + 7 → ∀ j, zC0 (c + 1) j = glue 135 f zL c j := by
  intro c hc j
  by_cases q : c < 135
  · rw [glue_l q, hf]
    exact if_neg (fun g => by have := g.1; omega)
  · obtain ⟨i, rfl⟩ : ∃ i, c = 135 + i := ⟨c - 135, by omega⟩
    rw [glue_r]
    by_cases h4 : i = 6 ∧ j < 4
    · exact (if_pos ⟨by omega, h4.2⟩).trans (if_pos h4).symm
    · exact (if_neg (fun g => h4 ⟨by have := g.1; omega, g.2⟩)).trans (if_neg h4).symm
theorem Blk.nil {D : va_G} {cA : Nat → ClassId} : Blk D cA 0 (fun _ => (1, 0, 0)) (fun _ => 0) zz0 [] := ⟨rfl, fun _ _ j hj => absurd hj (Nat.not_lt_zero j)⟩
theorem Clo.nil : Clo 0 (fun _ => (1, 0, 0)) := fun j hj => absurd hj (Nat.not_lt_zero j)
theorem upd4 (c : ClassId) : (Sum.inl (c, 4, .inl (upd (upd (upd (upd (fun _ => (0 : Int32)) 0 (Int32.ofInt (-1))) 1 (Int32.ofInt (-1))) 2 (Int32.ofInt (-1))) 3 (Int32.ofInt (-1)))) : va_E) = .inl (c, 4, .inl (fun j => Int32.ofInt (if j < 4 then -1 else 0))) := by
  have e : (upd (upd (upd (upd (fun _ => (0 : Int32)) 0 (Int32.ofInt (-1))) 1 (Int32.ofInt (-1))) 2 (Int32.ofInt (-1))) 3 (Int32.ofInt (-1))) = fun j => Int32.ofInt (if j < 4 then -1 else 0) := by
    funext j
    unfold upd
    by_cases h3 : j = 3
    · subst h3; rfl
    · by_cases h2 : j = 2
      · subst h2; rfl
      · by_cases h1 : j = 1
        · subst h1; rfl
        · by_cases h0 : j = 0
          · subst h0; rfl
          · rw [if_neg h3, if_neg h2, if_neg h1, if_neg h0, if_neg (by omega)]
            rfl
  rw [e]
def kdX1 (c : Nat) : Nat × Nat × Nat := ([(0, 1, 13), (1, 30, 0), (1, 30, 0), (1, 30, 0), (1, 30, 0), (1, 30, 0), (1, 30, 0), (1, 30, 0), (1, 30, 0), (1, 30, 0), (1, 30, 0)] : List (Nat × Nat × Nat)).getD c (9, 0, 0)
def kdX3 (c : Nat) : Nat × Nat × Nat := ([(0, 3, 12), (1, 242, 0), (1, 242, 0), (1, 242, 0), (1, 335, 0), (1, 335, 0), (1, 335, 0), (1, 335, 0), (1, 335, 0)] : List (Nat × Nat × Nat)).getD c (9, 0, 0)
def kdX8 (c : Nat) : Nat × Nat × Nat := ([(0, 7, 7), (1, 61, 0), (0, 1, 13), (1, 30, 0), (1, 30, 0), (1, 30, 0), (1, 30, 0), (1, 30, 0), (1, 30, 0), (1, 30, 0), (1, 30, 0), (1, 30, 0), (1, 30, 0), (0, 3, 12), (1, 242, 0), (1, 242, 0), (1, 242, 0), (1, 335, 0), (1, 335, 0), (1, 335, 0), (1, 335, 0), (1, 335, 0), (1, 30, 0)] : List (Nat × Nat × Nat)).getD c (9, 0, 0)
def kdX0 (c : Nat) : Nat × Nat × Nat := ([(0, 0, 11), (3, 30, 2), (2, 7, 0), (2, 7, 0), (2, 7, 0), (2, 7, 0), (2, 7, 0), (2, 7, 0), (2, 7, 0), (2, 7, 0), (2, 7, 0), (2, 7, 0), (2, 7, 0), (2, 7, 0), (2, 7, 0), (2, 7, 0), (2, 7, 0), (2, 7, 0), (2, 7, 0), (2, 7, 0), (2, 7, 0), (2, 7, 0), (2, 7, 0), (2, 7, 0), (2, 7, 0), (2, 7, 0), (2, 7, 0), (2, 7, 0), (2, 7, 0), (2, 7, 0), (2, 7, 0), (2, 7, 0), (1, 30, 0), (1, 30, 0), (1, 61, 0), (1, 61, 0), (1, 61, 0), (1, 61, 0), (1, 61, 0), (1, 61, 0)] : List (Nat × Nat × Nat)).getD c (9, 0, 0)
def kdX5_60 (c : Nat) : Nat × Nat × Nat := ([(0, 5, 2), (2, 60, 0)] : List (Nat × Nat × Nat)).getD c (9, 0, 0)
def kdX5_400 (c : Nat) : Nat × Nat × Nat := ([(0, 5, 2), (2, 400, 0)] : List (Nat × Nat × Nat)).getD c (9, 0, 0)
def kdX4 (c : Nat) : Nat × Nat × Nat := ([(0, 4, 8)] : List (Nat × Nat × Nat)).getD c (9, 0, 0)
def kdX7 (c : Nat) : Nat × Nat × Nat := ([(0, 6, 5), (1, 30, 0), (1, 30, 0)] : List (Nat × Nat × Nat)).getD c (9, 0, 0)
def kdX2 (c : Nat) : Nat × Nat × Nat := ([(0, 2, 2), (3, 4, 3), (1, 40, 0), (1, 40, 0), (1, 40, 0), (1, 40, 0), (1, 4, 0)] : List (Nat × Nat × Nat)).getD c (9, 0, 0)
def kdX9 (c : Nat) : Nat × Nat × Nat := ([(0, 8, 14), (0, 0, 11), (3, 30, 2), (2, 7, 0), (2, 7, 0), (2, 7, 0), (2, 7, 0), (2, 7, 0), (2, 7, 0), (2, 7, 0), (2, 7, 0), (2, 7, 0), (2, 7, 0), (2, 7, 0), (2, 7, 0), (2, 7, 0), (2, 7, 0), (2, 7, 0), (2, 7, 0), (2, 7, 0), (2, 7, 0), (2, 7, 0), (2, 7, 0), (2, 7, 0), (2, 7, 0), (2, 7, 0), (2, 7, 0), (2, 7, 0), (2, 7, 0), (2, 7, 0), (2, 7, 0), (2, 7, 0), (2, 7, 0), (1, 30, 0), (1, 30, 0), (1, 61, 0), (1, 61, 0), (1, 61, 0), (1, 61, 0), (1, 61, 0), (1, 61, 0), (0, 0, 11), (3, 30, 2), (2, 7, 0), (2, 7, 0), (2, 7, 0), (2, 7, 0), (2, 7, 0), (2, 7, 0), (2, 7, 0), (2, 7, 0), (2, 7, 0), (2, 7, 0), (2, 7, 0), (2, 7, 0), (2, 7, 0), (2, 7, 0), (2, 7, 0), (2, 7, 0), (2, 7, 0), (2, 7, 0), (2, 7, 0), (2, 7, 0), (2, 7, 0), (2, 7, 0), (2, 7, 0), (2, 7, 0), (2, 7, 0), (2, 7, 0), (2, 7, 0), (2, 7, 0), (2, 7, 0), (2, 7, 0), (1, 30, 0), (1, 30, 0), (1, 61, 0), (1, 61, 0), (1, 61, 0), (1, 61, 0), (1, 61, 0), (1, 61, 0), (0, 5, 2), (2, 60, 0), (0, 5, 2), (2, 400, 0), (0, 4, 8), (0, 7, 7), (1, 61, 0), (0, 1, 13), (1, 30, 0), (1, 30, 0), (1, 30, 0), (1, 30, 0), (1, 30, 0), (1, 30, 0), (1, 30, 0), (1, 30, 0), (1, 30, 0), (1, 30, 0), (0, 3, 12), (1, 242, 0), (1, 242, 0), (1, 242, 0), (1, 335, 0), (1, 335, 0), (1, 335, 0), (1, 335, 0), (1, 335, 0), (1, 30, 0), (0, 7, 7), (1, 61, 0), (0, 1, 13), (1, 30, 0), (1, 30, 0), (1, 30, 0), (1, 30, 0), (1, 30, 0), (1, 30, 0), (1, 30, 0), (1, 30, 0), (1, 30, 0), (1, 30, 0), (0, 3, 12), (1, 242, 0), (1, 242, 0), (1, 242, 0), (1, 335, 0), (1, 335, 0), (1, 335, 0), (1, 335, 0), (1, 335, 0), (1, 30, 0), (1, 60, 0), (0, 6, 5), (1, 30, 0), (1, 30, 0), (0, 2, 2), (3, 4, 3), (1, 40, 0), (1, 40, 0), (1, 40, 0), (1, 40, 0), (1, 4, 0)] : List (Nat × Nat × Nat)).getD c (9, 0, 0)
def kdX10 (c : Nat) : Nat × Nat × Nat := ([(0, 9, 31), (1, 608, 0), (1, 608, 0), (1, 60, 0), (1, 640, 0), (1, 6, 0), (1, 30, 0), (1, 30, 0), (1, 30, 0), (1, 30, 0), (1, 240, 0), (1, 240, 0), (1, 240, 0), (1, 30, 0), (1, 30, 0), (1, 60, 0), (1, 30, 0), (1, 30, 0), (1, 4, 0), (1, 160, 0)] : List (Nat × Nat × Nat)).getD c (9, 0, 0)
theorem ff_X1_9 : kFF RX1 9 1 2 13 := ⟨RX1, TX1, tyX1, rfl, by decide, inG1, mw134, tyX1_ok, nmX1, rfl, rfl, fun q => ⟨rfl, rfl⟩⟩
theorem ff_X1_15 : kFF RX1 15 1 3 13 := ⟨RX1, TX1, tyX1, rfl, by decide, inG1, mw137, tyX1_ok, nmX1, rfl, rfl, fun q => ⟨rfl, rfl⟩⟩
theorem ff_X1_18 : kFF RX1 18 1 4 13 := ⟨RX1, TX1, tyX1, rfl, by decide, inG1, mw138, tyX1_ok, nmX1, rfl, rfl, fun q => ⟨rfl, rfl⟩⟩
theorem ff_X1_21 : kFF RX1 21 1 5 13 := ⟨RX1, TX1, tyX1, rfl, by decide, inG1, mw140, tyX1_ok, nmX1, rfl, rfl, fun q => ⟨rfl, rfl⟩⟩
theorem ff_X1_24 : kFF RX1 24 1 6 13 := ⟨RX1, TX1, tyX1, rfl, by decide, inG1, mw141, tyX1_ok, nmX1, rfl, rfl, fun q => ⟨rfl, rfl⟩⟩
theorem ff_X1_27 : kFF RX1 27 1 7 13 := ⟨RX1, TX1, tyX1, rfl, by decide, inG1, mw142, tyX1_ok, nmX1, rfl, rfl, fun q => ⟨rfl, rfl⟩⟩
theorem ff_X1_30 : kFF RX1 30 1 8 13 := ⟨RX1, TX1, tyX1, rfl, by decide, inG1, mw144, tyX1_ok, nmX1, rfl, rfl, fun q => ⟨rfl, rfl⟩⟩
theorem ff_X1_33 : kFF RX1 33 1 9 13 := ⟨RX1, TX1, tyX1, rfl, by decide, inG1, mw146, tyX1_ok, nmX1, rfl, rfl, fun q => ⟨rfl, rfl⟩⟩
theorem ff_X1_36 : kFF RX1 36 1 10 13 := ⟨RX1, TX1, tyX1, rfl, by decide, inG1, mw148, tyX1_ok, nmX1, rfl, rfl, fun q => ⟨rfl, rfl⟩⟩
theorem ff_X1_39 : kFF RX1 39 1 11 13 := ⟨RX1, TX1, tyX1, rfl, by decide, inG1, mw149, tyX1_ok, nmX1, rfl, rfl, fun q => ⟨rfl, rfl⟩⟩
theorem ff_X3_9 : kFF RX3 9 3 0 12 := ⟨RX3, TX3, tyX3, rfl, by decide, inG3, mw169, tyX3_ok, nmX3, rfl, rfl, fun q => ⟨rfl, rfl⟩⟩
theorem ff_X3_15 : kFF RX3 15 3 1 12 := ⟨RX3, TX3, tyX3, rfl, by decide, inG3, mw172, tyX3_ok, nmX3, rfl, rfl, fun q => ⟨rfl, rfl⟩⟩
theorem ff_X3_18 : kFF RX3 18 3 2 12 := ⟨RX3, TX3, tyX3, rfl, by decide, inG3, mw173, tyX3_ok, nmX3, rfl, rfl, fun q => ⟨rfl, rfl⟩⟩
theorem ff_X3_21 : kFF RX3 21 3 3 12 := ⟨RX3, TX3, tyX3, rfl, by decide, inG3, mw174, tyX3_ok, nmX3, rfl, rfl, fun q => ⟨rfl, rfl⟩⟩
theorem ff_X3_24 : kFF RX3 24 3 4 12 := ⟨RX3, TX3, tyX3, rfl, by decide, inG3, mw175, tyX3_ok, nmX3, rfl, rfl, fun q => ⟨rfl, rfl⟩⟩
theorem ff_X3_27 : kFF RX3 27 3 5 12 := ⟨RX3, TX3, tyX3, rfl, by decide, inG3, mw176, tyX3_ok, nmX3, rfl, rfl, fun q => ⟨rfl, rfl⟩⟩
theorem ff_X3_30 : kFF RX3 30 3 6 12 := ⟨RX3, TX3, tyX3, rfl, by decide, inG3, mw177, tyX3_ok, nmX3, rfl, rfl, fun q => ⟨rfl, rfl⟩⟩
theorem ff_X3_33 : kFF RX3 33 3 7 12 := ⟨RX3, TX3, tyX3, rfl, by decide, inG3, mw178, tyX3_ok, nmX3, rfl, rfl, fun q => ⟨rfl, rfl⟩⟩
theorem ff_X8_9 : kFF RX8 9 7 0 7 := ⟨RX8, TX8, tyX8, rfl, by decide, inG8, mw198, tyX8_ok, nmX8, rfl, rfl, fun q => ⟨rfl, rfl⟩⟩
theorem ff_X8_18 : kFF RX8 18 7 2 7 := ⟨RX8, TX8, tyX8, rfl, by decide, inG8, mw202, tyX8_ok, nmX8, rfl, rfl, fun q => ⟨rfl, rfl⟩⟩
theorem ff_X8_25 : kFF RX8 25 7 3 7 := ⟨RX8, TX8, tyX8, rfl, by decide, inG8, mw204, tyX8_ok, nmX8, rfl, rfl, fun q => ⟨rfl, rfl⟩⟩
theorem ff_X8_29 : kFF RX8 29 7 6 7 := ⟨RX8, TX8, tyX8, rfl, by decide, inG8, mw209, tyX8_ok, nmX8, rfl, rfl, fun q => ⟨rfl, rfl⟩⟩
theorem ff_X0_11 : kFF RX0 11 0 2 11 := ⟨RX0, TX0, tyX0, rfl, by decide, inG0, mw38, tyX0_ok, nmX0, rfl, rfl, fun q => ⟨rfl, rfl⟩⟩
theorem ff_X0_16 : kFF RX0 16 0 3 11 := ⟨RX0, TX0, tyX0, rfl, by decide, inG0, mw40, tyX0_ok, nmX0, rfl, rfl, fun q => ⟨rfl, rfl⟩⟩
theorem ff_X0_20 : kFF RX0 20 0 4 11 := ⟨RX0, TX0, tyX0, rfl, by decide, inG0, mw42, tyX0_ok, nmX0, rfl, rfl, fun q => ⟨rfl, rfl⟩⟩
theorem ff_X0_23 : kFF RX0 23 0 5 11 := ⟨RX0, TX0, tyX0, rfl, by decide, inG0, mw45, tyX0_ok, nmX0, rfl, rfl, fun q => ⟨rfl, rfl⟩⟩
theorem ff_X0_26 : kFF RX0 26 0 6 11 := ⟨RX0, TX0, tyX0, rfl, by decide, inG0, mw49, tyX0_ok, nmX0, rfl, rfl, fun q => ⟨rfl, rfl⟩⟩
theorem ff_X0_29 : kFF RX0 29 0 7 11 := ⟨RX0, TX0, tyX0, rfl, by decide, inG0, mw53, tyX0_ok, nmX0, rfl, rfl, fun q => ⟨rfl, rfl⟩⟩
theorem ff_X0_32 : kFF RX0 32 0 8 11 := ⟨RX0, TX0, tyX0, rfl, by decide, inG0, mw57, tyX0_ok, nmX0, rfl, rfl, fun q => ⟨rfl, rfl⟩⟩
theorem ff_X0_35 : kFF RX0 35 0 9 11 := ⟨RX0, TX0, tyX0, rfl, by decide, inG0, mw60, tyX0_ok, nmX0, rfl, rfl, fun q => ⟨rfl, rfl⟩⟩
theorem ff_X0_38 : kFF RX0 38 0 10 11 := ⟨RX0, TX0, tyX0, rfl, by decide, inG0, mw63, tyX0_ok, nmX0, rfl, rfl, fun q => ⟨rfl, rfl⟩⟩
theorem ff_X5_9 : kFF RX5 9 5 0 2 := ⟨RX5, TX5, tyX5, rfl, by decide, inG5, mw85, tyX5_ok, nmX5, rfl, rfl, fun q => ⟨rfl, rfl⟩⟩
theorem ff_X7_9 : kFF RX7 9 6 0 5 := ⟨RX7, TX7, tyX7, rfl, by decide, inG7, mw223, tyX7_ok, nmX7, rfl, rfl, fun q => ⟨rfl, rfl⟩⟩
theorem ff_X7_15 : kFF RX7 15 6 1 5 := ⟨RX7, TX7, tyX7, rfl, by decide, inG7, mw224, tyX7_ok, nmX7, rfl, rfl, fun q => ⟨rfl, rfl⟩⟩
theorem ff_X2_11 : kFF RX2 11 2 0 2 := ⟨RX2, TX2, tyX2, rfl, by decide, inG2, mw244, tyX2_ok, nmX2, rfl, rfl, fun q => ⟨rfl, rfl⟩⟩
theorem ff_X2_14 : kFF RX2 14 2 1 2 := ⟨RX2, TX2, tyX2, rfl, by decide, inG2, mw246, tyX2_ok, nmX2, rfl, rfl, fun q => ⟨rfl, rfl⟩⟩
theorem ff_X9_14 : kFF RX9 14 8 0 14 := ⟨RX9, TX9, tyX9, rfl, by decide, inG9, mw250, tyX9_ok, nmX9, rfl, rfl, fun q => ⟨rfl, rfl⟩⟩
theorem ff_X9_18 : kFF RX9 18 8 1 14 := ⟨RX9, TX9, tyX9, rfl, by decide, inG9, mw251, tyX9_ok, nmX9, rfl, rfl, fun q => ⟨rfl, rfl⟩⟩
theorem ff_X9_26 : kFF RX9 26 8 3 14 := ⟨RX9, TX9, tyX9, rfl, by decide, inG9, mw253, tyX9_ok, nmX9, rfl, rfl, fun q => ⟨rfl, rfl⟩⟩
theorem ff_X9_30 : kFF RX9 30 8 4 14 := ⟨RX9, TX9, tyX9, rfl, by decide, inG9, mw254, tyX9_ok, nmX9, rfl, rfl, fun q => ⟨rfl, rfl⟩⟩
theorem ff_X9_36 : kFF RX9 36 8 5 14 := ⟨RX9, TX9, tyX9, rfl, by decide, inG9, mw255, tyX9_ok, nmX9, rfl, rfl, fun q => ⟨rfl, rfl⟩⟩
theorem ff_X9_43 : kFF RX9 43 8 6 14 := ⟨RX9, TX9, tyX9, rfl, by decide, inG9, mw256, tyX9_ok, nmX9, rfl, rfl, fun q => ⟨rfl, rfl⟩⟩
theorem ff_X9_47 : kFF RX9 47 8 7 14 := ⟨RX9, TX9, tyX9, rfl, by decide, inG9, mw257, tyX9_ok, nmX9, rfl, rfl, fun q => ⟨rfl, rfl⟩⟩
theorem ff_X9_50 : kFF RX9 50 8 9 14 := ⟨RX9, TX9, tyX9, rfl, by decide, inG9, mw259, tyX9_ok, nmX9, rfl, rfl, fun q => ⟨rfl, rfl⟩⟩
theorem ff_X9_57 : kFF RX9 57 8 12 14 := ⟨RX9, TX9, tyX9, rfl, by decide, inG9, mw262, tyX9_ok, nmX9, rfl, rfl, fun q => ⟨rfl, rfl⟩⟩
theorem ff_X9_64 : kFF RX9 64 8 13 14 := ⟨RX9, TX9, tyX9, rfl, by decide, inG9, mw263, tyX9_ok, nmX9, rfl, rfl, fun q => ⟨rfl, rfl⟩⟩
theorem ff_X10_11 : kFF RX10 11 9 0 31 := ⟨RX10, TX10, tyX10, rfl, by decide, inG10, mw922, tyX10_ok, nmX10, rfl, rfl, fun q => ⟨rfl, rfl⟩⟩
theorem ff_X10_15 : kFF RX10 15 9 1 31 := ⟨RX10, TX10, tyX10, rfl, by decide, inG10, mw923, tyX10_ok, nmX10, rfl, rfl, fun q => ⟨rfl, rfl⟩⟩
theorem ff_X10_18 : kFF RX10 18 9 3 31 := ⟨RX10, TX10, tyX10, rfl, by decide, inG10, mw925, tyX10_ok, nmX10, rfl, rfl, fun q => ⟨rfl, rfl⟩⟩
theorem ff_X10_21 : kFF RX10 21 9 4 31 := ⟨RX10, TX10, tyX10, rfl, by decide, inG10, mw926, tyX10_ok, nmX10, rfl, rfl, fun q => ⟨rfl, rfl⟩⟩
theorem ff_X10_24 : kFF RX10 24 9 5 31 := ⟨RX10, TX10, tyX10, rfl, by decide, inG10, mw927, tyX10_ok, nmX10, rfl, rfl, fun q => ⟨rfl, rfl⟩⟩
theorem ff_X10_27 : kFF RX10 27 9 10 31 := ⟨RX10, TX10, tyX10, rfl, by decide, inG10, mw932, tyX10_ok, nmX10, rfl, rfl, fun q => ⟨rfl, rfl⟩⟩
theorem ff_X10_30 : kFF RX10 30 9 11 31 := ⟨RX10, TX10, tyX10, rfl, by decide, inG10, mw933, tyX10_ok, nmX10, rfl, rfl, fun q => ⟨rfl, rfl⟩⟩
theorem ff_X10_33 : kFF RX10 33 9 12 31 := ⟨RX10, TX10, tyX10, rfl, by decide, inG10, mw934, tyX10_ok, nmX10, rfl, rfl, fun q => ⟨rfl, rfl⟩⟩
theorem ff_X10_36 : kFF RX10 36 9 13 31 := ⟨RX10, TX10, tyX10, rfl, by decide, inG10, mw935, tyX10_ok, nmX10, rfl, rfl, fun q => ⟨rfl, rfl⟩⟩
theorem ff_X10_39 : kFF RX10 39 9 14 31 := ⟨RX10, TX10, tyX10, rfl, by decide, inG10, mw936, tyX10_ok, nmX10, rfl, rfl, fun q => ⟨rfl, rfl⟩⟩
theorem ff_X10_42 : kFF RX10 42 9 15 31 := ⟨RX10, TX10, tyX10, rfl, by decide, inG10, mw937, tyX10_ok, nmX10, rfl, rfl, fun q => ⟨rfl, rfl⟩⟩
theorem ff_X10_45 : kFF RX10 45 9 16 31 := ⟨RX10, TX10, tyX10, rfl, by decide, inG10, mw938, tyX10_ok, nmX10, rfl, rfl, fun q => ⟨rfl, rfl⟩⟩
theorem ff_X10_48 : kFF RX10 48 9 22 31 := ⟨RX10, TX10, tyX10, rfl, by decide, inG10, mw944, tyX10_ok, nmX10, rfl, rfl, fun q => ⟨rfl, rfl⟩⟩
theorem ff_X10_51 : kFF RX10 51 9 23 31 := ⟨RX10, TX10, tyX10, rfl, by decide, inG10, mw945, tyX10_ok, nmX10, rfl, rfl, fun q => ⟨rfl, rfl⟩⟩
theorem ff_X10_54 : kFF RX10 54 9 24 31 := ⟨RX10, TX10, tyX10, rfl, by decide, inG10, mw946, tyX10_ok, nmX10, rfl, rfl, fun q => ⟨rfl, rfl⟩⟩
theorem ff_X10_57 : kFF RX10 57 9 25 31 := ⟨RX10, TX10, tyX10, rfl, by decide, inG10, mw947, tyX10_ok, nmX10, rfl, rfl, fun q => ⟨rfl, rfl⟩⟩
theorem ff_X10_60 : kFF RX10 60 9 26 31 := ⟨RX10, TX10, tyX10, rfl, by decide, inG10, mw948, tyX10_ok, nmX10, rfl, rfl, fun q => ⟨rfl, rfl⟩⟩
theorem ff_X10_63 : kFF RX10 63 9 29 31 := ⟨RX10, TX10, tyX10, rfl, by decide, inG10, mw951, tyX10_ok, nmX10, rfl, rfl, fun q => ⟨rfl, rfl⟩⟩
theorem ff_X10_66 : kFF RX10 66 9 30 31 := ⟨RX10, TX10, tyX10, rfl, by decide, inG10, mw952, tyX10_ok, nmX10, rfl, rfl, fun q => ⟨rfl, rfl⟩⟩
theorem yi_X0 : kyOk yX0_init 0 := ⟨by decide +kernel, by decide +kernel, by decide +kernel⟩
theorem yi_X1 : kyOk yX1_init 0 := ⟨by decide +kernel, by decide +kernel, by decide +kernel⟩
theorem yi_X2 : kyOk yX2_init 0 := ⟨by decide +kernel, by decide +kernel, by decide +kernel⟩
theorem yi_X3 : kyOk yX3_init 0 := ⟨by decide +kernel, by decide +kernel, by decide +kernel⟩
theorem yi_X4 : kyOk yX4_init 0 := ⟨by decide +kernel, by decide +kernel, by decide +kernel⟩
theorem yi_X5 : kyOk yX5_init 1 := ⟨by decide +kernel, by decide +kernel, by decide +kernel⟩
theorem yi_X7 : kyOk yX7_init 0 := ⟨by decide +kernel, by decide +kernel, by decide +kernel⟩
theorem yi_X8 : kyOk yX8_init 0 := ⟨by decide +kernel, by decide +kernel, by decide +kernel⟩
theorem yi_X9 : kyOk yX9_init 0 := ⟨by decide +kernel, by decide +kernel, by decide +kernel⟩
theorem yi_X10 : kyOk yX10_init 0 := ⟨by decide +kernel, by decide +kernel, by decide +kernel⟩
set_option maxHeartbeats 4000000 in
set_option maxRecDepth 100000 in
theorem con_X1 {l : Launch} (D : va_G) (cA : Nat → ClassId) (h0 sz : Nat) : kCon l yX1_init cX1_init 1 1 10 300 D cA h0 [] (.inr (1, [.int 0, .int 0, .null, .null, .null, .null, .null, .null, .null, .null, .null, .null, .int 0])) sz 11 kdX1 zz0 := by
  refine c_met (own := RX1) rfl rfl rfl (Nat.le_of_ble_eq_true rfl) (fun p e s m below meth c A hAe X hrt hlk => ?_)
  have hX : cX s := X.2.2.2.2.2.2.2.2
  refine c_sub (lv' := [(0, .ref h0)]) [0] rfl ?_
  refine c_aload_n X dX1_init_0 0 rfl ?_
  refine c_obj X mw129 dX1_init_1 (kCR_one (by decide)) (Nat.le_of_ble_eq_true rfl) ?_
  refine c_eq (ws' := (h0, .inr (1, [.int 0, .int 0, .null, .null, .null, .null, .null, .null, .null, .null, .null, .null, .int 0])) :: ([])) rfl ?_
  refine c_aload_n X dX1_init_4 0 rfl ?_
  refine c_bipush X dX1_init_5 (by decide +kernel) ?_
  refine c_newi (n := 30) X (by decide) (Nat.le_of_ble_eq_true rfl) (Nat.le_of_ble_eq_true rfl) dX1_init_7 (fun q1 => ?_)
  refine c_eq (ws' := (h0, .inr (1, [.int 0, .int 0, .null, .null, .null, .null, .null, .null, .null, .null, .null, .null, .int 0])) :: ([(q1, .inl (cA 0, 30, .inl (fun _ => 0)))])) rfl ?_
  refine c_putF (fs' := [.int 0, .int 0, .ref q1, .null, .null, .null, .null, .null, .null, .null, .null, .null, .int 0]) X ff_X1_9 (Nat.le_of_ble_eq_true rfl) rfl dX1_init_9 ?_
  refine c_aload_n X dX1_init_12 0 rfl ?_
  refine c_bipush X dX1_init_13 (by decide +kernel) ?_
  refine c_newi (n := 30) X (by decide) (Nat.le_of_ble_eq_true rfl) (Nat.le_of_ble_eq_true rfl) dX1_init_15 (fun q2 => ?_)
  refine c_cons ?_
  refine c_putF (fs' := [.int 0, .int 0, .ref q1, .ref q2, .null, .null, .null, .null, .null, .null, .null, .null, .int 0]) X ff_X1_15 (Nat.le_of_ble_eq_true rfl) rfl dX1_init_17 ?_
  refine c_aload_n X dX1_init_20 0 rfl ?_
  refine c_bipush X dX1_init_21 (by decide +kernel) ?_
  refine c_newi (n := 30) X (by decide) (Nat.le_of_ble_eq_true rfl) (Nat.le_of_ble_eq_true rfl) dX1_init_23 (fun q3 => ?_)
  refine c_cons ?_
  refine c_putF (fs' := [.int 0, .int 0, .ref q1, .ref q2, .ref q3, .null, .null, .null, .null, .null, .null, .null, .int 0]) X ff_X1_18 (Nat.le_of_ble_eq_true rfl) rfl dX1_init_25 ?_
  refine c_aload_n X dX1_init_28 0 rfl ?_
  refine c_bipush X dX1_init_29 (by decide +kernel) ?_
  refine c_newi (n := 30) X (by decide) (Nat.le_of_ble_eq_true rfl) (Nat.le_of_ble_eq_true rfl) dX1_init_31 (fun q4 => ?_)
  refine c_cons ?_
  refine c_putF (fs' := [.int 0, .int 0, .ref q1, .ref q2, .ref q3, .ref q4, .null, .null, .null, .null, .null, .null, .int 0]) X ff_X1_21 (Nat.le_of_ble_eq_true rfl) rfl dX1_init_33 ?_
  refine c_aload_n X dX1_init_36 0 rfl ?_
  refine c_bipush X dX1_init_37 (by decide +kernel) ?_
  refine c_newi (n := 30) X (by decide) (Nat.le_of_ble_eq_true rfl) (Nat.le_of_ble_eq_true rfl) dX1_init_39 (fun q5 => ?_)
  refine c_cons ?_
  refine c_putF (fs' := [.int 0, .int 0, .ref q1, .ref q2, .ref q3, .ref q4, .ref q5, .null, .null, .null, .null, .null, .int 0]) X ff_X1_24 (Nat.le_of_ble_eq_true rfl) rfl dX1_init_41 ?_
  refine c_aload_n X dX1_init_44 0 rfl ?_
  refine c_bipush X dX1_init_45 (by decide +kernel) ?_
  refine c_newi (n := 30) X (by decide) (Nat.le_of_ble_eq_true rfl) (Nat.le_of_ble_eq_true rfl) dX1_init_47 (fun q6 => ?_)
  refine c_cons ?_
  refine c_putF (fs' := [.int 0, .int 0, .ref q1, .ref q2, .ref q3, .ref q4, .ref q5, .ref q6, .null, .null, .null, .null, .int 0]) X ff_X1_27 (Nat.le_of_ble_eq_true rfl) rfl dX1_init_49 ?_
  refine c_aload_n X dX1_init_52 0 rfl ?_
  refine c_bipush X dX1_init_53 (by decide +kernel) ?_
  refine c_newi (n := 30) X (by decide) (Nat.le_of_ble_eq_true rfl) (Nat.le_of_ble_eq_true rfl) dX1_init_55 (fun q7 => ?_)
  refine c_cons ?_
  refine c_putF (fs' := [.int 0, .int 0, .ref q1, .ref q2, .ref q3, .ref q4, .ref q5, .ref q6, .ref q7, .null, .null, .null, .int 0]) X ff_X1_30 (Nat.le_of_ble_eq_true rfl) rfl dX1_init_57 ?_
  refine c_aload_n X dX1_init_60 0 rfl ?_
  refine c_bipush X dX1_init_61 (by decide +kernel) ?_
  refine c_newi (n := 30) X (by decide) (Nat.le_of_ble_eq_true rfl) (Nat.le_of_ble_eq_true rfl) dX1_init_63 (fun q8 => ?_)
  refine c_cons ?_
  refine c_putF (fs' := [.int 0, .int 0, .ref q1, .ref q2, .ref q3, .ref q4, .ref q5, .ref q6, .ref q7, .ref q8, .null, .null, .int 0]) X ff_X1_33 (Nat.le_of_ble_eq_true rfl) rfl dX1_init_65 ?_
  refine c_aload_n X dX1_init_68 0 rfl ?_
  refine c_bipush X dX1_init_69 (by decide +kernel) ?_
  refine c_newi (n := 30) X (by decide) (Nat.le_of_ble_eq_true rfl) (Nat.le_of_ble_eq_true rfl) dX1_init_71 (fun q9 => ?_)
  refine c_cons ?_
  refine c_putF (fs' := [.int 0, .int 0, .ref q1, .ref q2, .ref q3, .ref q4, .ref q5, .ref q6, .ref q7, .ref q8, .ref q9, .null, .int 0]) X ff_X1_36 (Nat.le_of_ble_eq_true rfl) rfl dX1_init_73 ?_
  refine c_aload_n X dX1_init_76 0 rfl ?_
  refine c_bipush X dX1_init_77 (by decide +kernel) ?_
  refine c_newi (n := 30) X (by decide) (Nat.le_of_ble_eq_true rfl) (Nat.le_of_ble_eq_true rfl) dX1_init_79 (fun q10 => ?_)
  refine c_cons ?_
  refine c_putF (fs' := [.int 0, .int 0, .ref q1, .ref q2, .ref q3, .ref q4, .ref q5, .ref q6, .ref q7, .ref q8, .ref q9, .ref q10, .int 0]) X ff_X1_39 (Nat.le_of_ble_eq_true rfl) rfl dX1_init_81 ?_
  exact c_ret (ad := fun c => if c = 0 then h0 else (glue (1 + 1 + 1 + 1 + 1 + 1 + 1 + 1 + 1) (glue (1 + 1 + 1 + 1 + 1 + 1 + 1 + 1) (glue (1 + 1 + 1 + 1 + 1 + 1 + 1) (glue (1 + 1 + 1 + 1 + 1 + 1) (glue (1 + 1 + 1 + 1 + 1) (glue (1 + 1 + 1 + 1) (glue (1 + 1 + 1) (glue (1 + 1) (glue (1) (fun _ => q1) (fun _ => q2)) (fun _ => q3)) (fun _ => q4)) (fun _ => q5)) (fun _ => q6)) (fun _ => q7)) (fun _ => q8)) (fun _ => q9)) (fun _ => q10)) (c - 1)) X hrt hlk (Nat.le_of_ble_eq_true rfl) (Nat.le_of_ble_eq_true rfl) rfl (fun H hP hD => Blk.done (D := D) (cA := cA) (kdX := kdX1) (zX := zz0) (Blk.app (Blk.app (Blk.app (Blk.app (Blk.app (Blk.app (Blk.app (Blk.app (Blk.app (Blk.one (t := 0) (u := 0) (q := q1) (f := fun _ => 0) (n := 30) (e := .inl (cA 0, 30, .inl (fun _ => 0))) (by decide) rfl) (Blk.one (t := 0) (u := 0) (q := q2) (f := fun _ => 0) (n := 30) (e := .inl (cA 0, 30, .inl (fun _ => 0))) (by decide) rfl) (Clo.one (by decide)) (Clo.one (by decide))) (Blk.one (t := 0) (u := 0) (q := q3) (f := fun _ => 0) (n := 30) (e := .inl (cA 0, 30, .inl (fun _ => 0))) (by decide) rfl) (Clo.app (Clo.one (by decide)) (Clo.one (by decide))) (Clo.one (by decide))) (Blk.one (t := 0) (u := 0) (q := q4) (f := fun _ => 0) (n := 30) (e := .inl (cA 0, 30, .inl (fun _ => 0))) (by decide) rfl) (Clo.app (Clo.app (Clo.one (by decide)) (Clo.one (by decide))) (Clo.one (by decide))) (Clo.one (by decide))) (Blk.one (t := 0) (u := 0) (q := q5) (f := fun _ => 0) (n := 30) (e := .inl (cA 0, 30, .inl (fun _ => 0))) (by decide) rfl) (Clo.app (Clo.app (Clo.app (Clo.one (by decide)) (Clo.one (by decide))) (Clo.one (by decide))) (Clo.one (by decide))) (Clo.one (by decide))) (Blk.one (t := 0) (u := 0) (q := q6) (f := fun _ => 0) (n := 30) (e := .inl (cA 0, 30, .inl (fun _ => 0))) (by decide) rfl) (Clo.app (Clo.app (Clo.app (Clo.app (Clo.one (by decide)) (Clo.one (by decide))) (Clo.one (by decide))) (Clo.one (by decide))) (Clo.one (by decide))) (Clo.one (by decide))) (Blk.one (t := 0) (u := 0) (q := q7) (f := fun _ => 0) (n := 30) (e := .inl (cA 0, 30, .inl (fun _ => 0))) (by decide) rfl) (Clo.app (Clo.app (Clo.app (Clo.app (Clo.app (Clo.one (by decide)) (Clo.one (by decide))) (Clo.one (by decide))) (Clo.one (by decide))) (Clo.one (by decide))) (Clo.one (by decide))) (Clo.one (by decide))) (Blk.one (t := 0) (u := 0) (q := q8) (f := fun _ => 0) (n := 30) (e := .inl (cA 0, 30, .inl (fun _ => 0))) (by decide) rfl) (Clo.app (Clo.app (Clo.app (Clo.app (Clo.app (Clo.app (Clo.one (by decide)) (Clo.one (by decide))) (Clo.one (by decide))) (Clo.one (by decide))) (Clo.one (by decide))) (Clo.one (by decide))) (Clo.one (by decide))) (Clo.one (by decide))) (Blk.one (t := 0) (u := 0) (q := q9) (f := fun _ => 0) (n := 30) (e := .inl (cA 0, 30, .inl (fun _ => 0))) (by decide) rfl) (Clo.app (Clo.app (Clo.app (Clo.app (Clo.app (Clo.app (Clo.app (Clo.one (by decide)) (Clo.one (by decide))) (Clo.one (by decide))) (Clo.one (by decide))) (Clo.one (by decide))) (Clo.one (by decide))) (Clo.one (by decide))) (Clo.one (by decide))) (Clo.one (by decide))) (Blk.one (t := 0) (u := 0) (q := q10) (f := fun _ => 0) (n := 30) (e := .inl (cA 0, 30, .inl (fun _ => 0))) (by decide) rfl) (Clo.app (Clo.app (Clo.app (Clo.app (Clo.app (Clo.app (Clo.app (Clo.app (Clo.one (by decide)) (Clo.one (by decide))) (Clo.one (by decide))) (Clo.one (by decide))) (Clo.one (by decide))) (Clo.one (by decide))) (Clo.one (by decide))) (Clo.one (by decide))) (Clo.one (by decide))) (Clo.one (by decide))) (Clo.app (Clo.app (Clo.app (Clo.app (Clo.app (Clo.app (Clo.app (Clo.app (Clo.app (Clo.one (by decide)) (Clo.one (by decide))) (Clo.one (by decide))) (Clo.one (by decide))) (Clo.one (by decide))) (Clo.one (by decide))) (Clo.one (by decide))) (Clo.one (by decide))) (Clo.one (by decide))) (Clo.one (by decide))) rfl rfl (by decide +kernel) (fun c hc j => ((glue_z (glue_z (glue_z (glue_z (glue_z (glue_z (glue_z (glue_z (glue_z (fun _ _ => rfl) (fun _ _ => rfl)) (fun _ _ => rfl)) (fun _ _ => rfl)) (fun _ _ => rfl)) (fun _ _ => rfl)) (fun _ _ => rfl)) (fun _ _ => rfl)) (fun _ _ => rfl)) (fun _ _ => rfl)) c j).symm) rfl hP hD) dX1_init_84
set_option maxHeartbeats 4000000 in
set_option maxRecDepth 100000 in
theorem con_X3 {l : Launch} (D : va_G) (cA : Nat → ClassId) (h0 sz : Nat) : kCon l yX3_init cX3_init 1 1 8 2401 D cA h0 [] (.inr (3, [.null, .null, .null, .null, .null, .null, .null, .null, .int 0, .int 0, .int 0, .int 0])) sz 9 kdX3 zz0 := by
  refine c_met (own := RX3) rfl rfl rfl (Nat.le_of_ble_eq_true rfl) (fun p e s m below meth c A hAe X hrt hlk => ?_)
  have hX : cX s := X.2.2.2.2.2.2.2.2
  refine c_sub (lv' := [(0, .ref h0)]) [0] rfl ?_
  refine c_aload_n X dX3_init_0 0 rfl ?_
  refine c_obj X mw168 dX3_init_1 (kCR_one (by decide)) (Nat.le_of_ble_eq_true rfl) ?_
  refine c_eq (ws' := (h0, .inr (3, [.null, .null, .null, .null, .null, .null, .null, .null, .int 0, .int 0, .int 0, .int 0])) :: ([])) rfl ?_
  refine c_aload_n X dX3_init_4 0 rfl ?_
  refine c_sipush X dX3_init_5 (by decide +kernel) ?_
  refine c_newi (n := 242) X (by decide) (Nat.le_of_ble_eq_true rfl) (Nat.le_of_ble_eq_true rfl) dX3_init_8 (fun q1 => ?_)
  refine c_eq (ws' := (h0, .inr (3, [.null, .null, .null, .null, .null, .null, .null, .null, .int 0, .int 0, .int 0, .int 0])) :: ([(q1, .inl (cA 0, 242, .inl (fun _ => 0)))])) rfl ?_
  refine c_putF (fs' := [.ref q1, .null, .null, .null, .null, .null, .null, .null, .int 0, .int 0, .int 0, .int 0]) X ff_X3_9 (Nat.le_of_ble_eq_true rfl) rfl dX3_init_10 ?_
  refine c_aload_n X dX3_init_13 0 rfl ?_
  refine c_sipush X dX3_init_14 (by decide +kernel) ?_
  refine c_newi (n := 242) X (by decide) (Nat.le_of_ble_eq_true rfl) (Nat.le_of_ble_eq_true rfl) dX3_init_17 (fun q2 => ?_)
  refine c_cons ?_
  refine c_putF (fs' := [.ref q1, .ref q2, .null, .null, .null, .null, .null, .null, .int 0, .int 0, .int 0, .int 0]) X ff_X3_15 (Nat.le_of_ble_eq_true rfl) rfl dX3_init_19 ?_
  refine c_aload_n X dX3_init_22 0 rfl ?_
  refine c_sipush X dX3_init_23 (by decide +kernel) ?_
  refine c_newi (n := 242) X (by decide) (Nat.le_of_ble_eq_true rfl) (Nat.le_of_ble_eq_true rfl) dX3_init_26 (fun q3 => ?_)
  refine c_cons ?_
  refine c_putF (fs' := [.ref q1, .ref q2, .ref q3, .null, .null, .null, .null, .null, .int 0, .int 0, .int 0, .int 0]) X ff_X3_18 (Nat.le_of_ble_eq_true rfl) rfl dX3_init_28 ?_
  refine c_aload_n X dX3_init_31 0 rfl ?_
  refine c_sipush X dX3_init_32 (by decide +kernel) ?_
  refine c_newi (n := 335) X (by decide) (Nat.le_of_ble_eq_true rfl) (Nat.le_of_ble_eq_true rfl) dX3_init_35 (fun q4 => ?_)
  refine c_cons ?_
  refine c_putF (fs' := [.ref q1, .ref q2, .ref q3, .ref q4, .null, .null, .null, .null, .int 0, .int 0, .int 0, .int 0]) X ff_X3_21 (Nat.le_of_ble_eq_true rfl) rfl dX3_init_37 ?_
  refine c_aload_n X dX3_init_40 0 rfl ?_
  refine c_sipush X dX3_init_41 (by decide +kernel) ?_
  refine c_newi (n := 335) X (by decide) (Nat.le_of_ble_eq_true rfl) (Nat.le_of_ble_eq_true rfl) dX3_init_44 (fun q5 => ?_)
  refine c_cons ?_
  refine c_putF (fs' := [.ref q1, .ref q2, .ref q3, .ref q4, .ref q5, .null, .null, .null, .int 0, .int 0, .int 0, .int 0]) X ff_X3_24 (Nat.le_of_ble_eq_true rfl) rfl dX3_init_46 ?_
  refine c_aload_n X dX3_init_49 0 rfl ?_
  refine c_sipush X dX3_init_50 (by decide +kernel) ?_
  refine c_newi (n := 335) X (by decide) (Nat.le_of_ble_eq_true rfl) (Nat.le_of_ble_eq_true rfl) dX3_init_53 (fun q6 => ?_)
  refine c_cons ?_
  refine c_putF (fs' := [.ref q1, .ref q2, .ref q3, .ref q4, .ref q5, .ref q6, .null, .null, .int 0, .int 0, .int 0, .int 0]) X ff_X3_27 (Nat.le_of_ble_eq_true rfl) rfl dX3_init_55 ?_
  refine c_aload_n X dX3_init_58 0 rfl ?_
  refine c_sipush X dX3_init_59 (by decide +kernel) ?_
  refine c_newi (n := 335) X (by decide) (Nat.le_of_ble_eq_true rfl) (Nat.le_of_ble_eq_true rfl) dX3_init_62 (fun q7 => ?_)
  refine c_cons ?_
  refine c_putF (fs' := [.ref q1, .ref q2, .ref q3, .ref q4, .ref q5, .ref q6, .ref q7, .null, .int 0, .int 0, .int 0, .int 0]) X ff_X3_30 (Nat.le_of_ble_eq_true rfl) rfl dX3_init_64 ?_
  refine c_aload_n X dX3_init_67 0 rfl ?_
  refine c_sipush X dX3_init_68 (by decide +kernel) ?_
  refine c_newi (n := 335) X (by decide) (Nat.le_of_ble_eq_true rfl) (Nat.le_of_ble_eq_true rfl) dX3_init_71 (fun q8 => ?_)
  refine c_cons ?_
  refine c_putF (fs' := [.ref q1, .ref q2, .ref q3, .ref q4, .ref q5, .ref q6, .ref q7, .ref q8, .int 0, .int 0, .int 0, .int 0]) X ff_X3_33 (Nat.le_of_ble_eq_true rfl) rfl dX3_init_73 ?_
  exact c_ret (ad := fun c => if c = 0 then h0 else (glue (1 + 1 + 1 + 1 + 1 + 1 + 1) (glue (1 + 1 + 1 + 1 + 1 + 1) (glue (1 + 1 + 1 + 1 + 1) (glue (1 + 1 + 1 + 1) (glue (1 + 1 + 1) (glue (1 + 1) (glue (1) (fun _ => q1) (fun _ => q2)) (fun _ => q3)) (fun _ => q4)) (fun _ => q5)) (fun _ => q6)) (fun _ => q7)) (fun _ => q8)) (c - 1)) X hrt hlk (Nat.le_of_ble_eq_true rfl) (Nat.le_of_ble_eq_true rfl) rfl (fun H hP hD => Blk.done (D := D) (cA := cA) (kdX := kdX3) (zX := zz0) (Blk.app (Blk.app (Blk.app (Blk.app (Blk.app (Blk.app (Blk.app (Blk.one (t := 0) (u := 0) (q := q1) (f := fun _ => 0) (n := 242) (e := .inl (cA 0, 242, .inl (fun _ => 0))) (by decide) rfl) (Blk.one (t := 0) (u := 0) (q := q2) (f := fun _ => 0) (n := 242) (e := .inl (cA 0, 242, .inl (fun _ => 0))) (by decide) rfl) (Clo.one (by decide)) (Clo.one (by decide))) (Blk.one (t := 0) (u := 0) (q := q3) (f := fun _ => 0) (n := 242) (e := .inl (cA 0, 242, .inl (fun _ => 0))) (by decide) rfl) (Clo.app (Clo.one (by decide)) (Clo.one (by decide))) (Clo.one (by decide))) (Blk.one (t := 0) (u := 0) (q := q4) (f := fun _ => 0) (n := 335) (e := .inl (cA 0, 335, .inl (fun _ => 0))) (by decide) rfl) (Clo.app (Clo.app (Clo.one (by decide)) (Clo.one (by decide))) (Clo.one (by decide))) (Clo.one (by decide))) (Blk.one (t := 0) (u := 0) (q := q5) (f := fun _ => 0) (n := 335) (e := .inl (cA 0, 335, .inl (fun _ => 0))) (by decide) rfl) (Clo.app (Clo.app (Clo.app (Clo.one (by decide)) (Clo.one (by decide))) (Clo.one (by decide))) (Clo.one (by decide))) (Clo.one (by decide))) (Blk.one (t := 0) (u := 0) (q := q6) (f := fun _ => 0) (n := 335) (e := .inl (cA 0, 335, .inl (fun _ => 0))) (by decide) rfl) (Clo.app (Clo.app (Clo.app (Clo.app (Clo.one (by decide)) (Clo.one (by decide))) (Clo.one (by decide))) (Clo.one (by decide))) (Clo.one (by decide))) (Clo.one (by decide))) (Blk.one (t := 0) (u := 0) (q := q7) (f := fun _ => 0) (n := 335) (e := .inl (cA 0, 335, .inl (fun _ => 0))) (by decide) rfl) (Clo.app (Clo.app (Clo.app (Clo.app (Clo.app (Clo.one (by decide)) (Clo.one (by decide))) (Clo.one (by decide))) (Clo.one (by decide))) (Clo.one (by decide))) (Clo.one (by decide))) (Clo.one (by decide))) (Blk.one (t := 0) (u := 0) (q := q8) (f := fun _ => 0) (n := 335) (e := .inl (cA 0, 335, .inl (fun _ => 0))) (by decide) rfl) (Clo.app (Clo.app (Clo.app (Clo.app (Clo.app (Clo.app (Clo.one (by decide)) (Clo.one (by decide))) (Clo.one (by decide))) (Clo.one (by decide))) (Clo.one (by decide))) (Clo.one (by decide))) (Clo.one (by decide))) (Clo.one (by decide))) (Clo.app (Clo.app (Clo.app (Clo.app (Clo.app (Clo.app (Clo.app (Clo.one (by decide)) (Clo.one (by decide))) (Clo.one (by decide))) (Clo.one (by decide))) (Clo.one (by decide))) (Clo.one (by decide))) (Clo.one (by decide))) (Clo.one (by decide))) rfl rfl (by decide +kernel) (fun c hc j => ((glue_z (glue_z (glue_z (glue_z (glue_z (glue_z (glue_z (fun _ _ => rfl) (fun _ _ => rfl)) (fun _ _ => rfl)) (fun _ _ => rfl)) (fun _ _ => rfl)) (fun _ _ => rfl)) (fun _ _ => rfl)) (fun _ _ => rfl)) c j).symm) rfl hP hD) dX3_init_76
set_option maxHeartbeats 4000000 in
set_option maxRecDepth 100000 in
theorem con_X8 {l : Launch} (D : va_G) (cA : Nat → ClassId) (h0 sz : Nat) : kCon l yX8_init cX8_init 1 2 22 2817 D cA h0 [] (.inr (7, [.null, .int 0, .null, .null, .int 0, .int 0, .null])) sz 23 kdX8 zz0 := by
  refine c_met (own := RX8) rfl rfl rfl (Nat.le_of_ble_eq_true rfl) (fun p e s m below meth c A hAe X hrt hlk => ?_)
  have hX : cX s := X.2.2.2.2.2.2.2.2
  refine c_sub (lv' := [(0, .ref h0)]) [0] rfl ?_
  refine c_aload_n X dX8_init_0 0 rfl ?_
  refine c_obj X mw124 dX8_init_1 (kCR_one (by decide)) (Nat.le_of_ble_eq_true rfl) ?_
  refine c_eq (ws' := (h0, .inr (7, [.null, .int 0, .null, .null, .int 0, .int 0, .null])) :: ([])) rfl ?_
  refine c_aload_n X dX8_init_4 0 rfl ?_
  refine c_bipush X dX8_init_5 (by decide +kernel) ?_
  refine c_newi (n := 61) X (by decide) (Nat.le_of_ble_eq_true rfl) (Nat.le_of_ble_eq_true rfl) dX8_init_7 (fun q1 => ?_)
  refine c_eq (ws' := (h0, .inr (7, [.null, .int 0, .null, .null, .int 0, .int 0, .null])) :: ([(q1, .inl (cA 0, 61, .inl (fun _ => 0)))])) rfl ?_
  refine c_putF (fs' := [.ref q1, .int 0, .null, .null, .int 0, .int 0, .null]) X ff_X8_9 (Nat.le_of_ble_eq_true rfl) rfl dX8_init_9 ?_
  refine c_aload_n X dX8_init_12 0 rfl ?_
  refine c_new (ci := 1) (C := RX1) (T := TX1) (n := 13) (fs := [.int 0, .int 0, .null, .null, .null, .null, .null, .null, .null, .null, .null, .null, .int 0]) X tyX1 rfl inG1 tyX1_ok mw125 mw126 mw6 (by decide +kernel) (Nat.le_of_ble_eq_true rfl) (Nat.le_of_ble_eq_true rfl) dX8_init_13 (fun q2 => ?_)
  refine c_dup X dX8_init_16 rfl ?_
  refine c_conN (R := kCR 2 22 2817) (cn := 2) (sn := 74) (q := q2) (st := [.ref q2, .ref h0]) (ws := (h0, .inr (7, [.ref q1, .int 0, .null, .null, .int 0, .int 0, .null])) :: ([(q1, .inl (cA 0, 61, .inl (fun _ => 0)))])) (as := []) X (fun sz => con_X1 D cA q2 sz) (hX.2.2.2.2.2.1) mw127 mw6 mw128 rfl yi_X1 rfl (kCR_ok (by decide) (by decide)) (Nat.le_of_ble_eq_true rfl) (Nat.le_of_ble_eq_true rfl) (Nat.le_of_ble_eq_true rfl) dX8_init_17 (fun ad3 had3 => ?_)
  refine c_cons ?_
  rw [← had3]
  refine c_putF (fs' := [.ref q1, .int 0, .ref (ad3 0), .null, .int 0, .int 0, .null]) X ff_X8_18 (Nat.le_of_ble_eq_true rfl) rfl dX8_init_20 ?_
  refine c_aload_n X dX8_init_23 0 rfl ?_
  refine c_new (ci := 3) (C := RX3) (T := TX3) (n := 12) (fs := [.null, .null, .null, .null, .null, .null, .null, .null, .int 0, .int 0, .int 0, .int 0]) X tyX3 rfl inG3 tyX3_ok mw164 mw165 mw7 (by decide +kernel) (Nat.le_of_ble_eq_true rfl) (Nat.le_of_ble_eq_true rfl) dX8_init_24 (fun q4 => ?_)
  refine c_dup X dX8_init_27 rfl ?_
  refine c_conN (R := kCR 2 22 2817) (cn := 13) (sn := 386) (q := q4) (st := [.ref q4, .ref h0]) (ws := (h0, .inr (7, [.ref q1, .int 0, .ref (ad3 0), .null, .int 0, .int 0, .null])) :: (([(q1, .inl (cA 0, 61, .inl (fun _ => 0)))] ++ kW 11 kdX1 cA ad3 zz0))) (as := []) X (fun sz => con_X3 D cA q4 sz) (hX.2.2.2.2.2.2.1) mw166 mw7 mw167 rfl yi_X3 rfl (kCR_ok (by decide) (by decide)) (Nat.le_of_ble_eq_true rfl) (Nat.le_of_ble_eq_true rfl) (Nat.le_of_ble_eq_true rfl) dX8_init_28 (fun ad5 had5 => ?_)
  refine c_cons ?_
  rw [← had5]
  refine c_putF (fs' := [.ref q1, .int 0, .ref (ad3 0), .ref (ad5 0), .int 0, .int 0, .null]) X ff_X8_25 (Nat.le_of_ble_eq_true rfl) rfl dX8_init_31 ?_
  refine c_aload_n X dX8_init_34 0 rfl ?_
  refine c_bipush X dX8_init_35 (by decide +kernel) ?_
  refine c_newi (n := 30) X (by decide) (Nat.le_of_ble_eq_true rfl) (Nat.le_of_ble_eq_true rfl) dX8_init_37 (fun q6 => ?_)
  refine c_cons ?_
  refine c_putF (fs' := [.ref q1, .int 0, .ref (ad3 0), .ref (ad5 0), .int 0, .int 0, .ref q6]) X ff_X8_29 (Nat.le_of_ble_eq_true rfl) rfl dX8_init_39 ?_
  exact c_ret (ad := fun c => if c = 0 then h0 else (glue (1 + 11 + 9) (glue (1 + 11) (glue (1) (fun _ => q1) ad3) ad5) (fun _ => q6)) (c - 1)) X hrt hlk (Nat.le_of_ble_eq_true rfl) (Nat.le_of_ble_eq_true rfl) rfl (fun H hP hD => Blk.done (D := D) (cA := cA) (kdX := kdX8) (zX := zz0) (Blk.app (Blk.app (Blk.app (Blk.one (t := 0) (u := 0) (q := q1) (f := fun _ => 0) (n := 61) (e := .inl (cA 0, 61, .inl (fun _ => 0))) (by decide) rfl) (blk_kW (D := D) (cA := cA) (n := 11) (kd := kdX1) (ad := ad3) (z := zz0)) (Clo.one (by decide)) (by unfold Clo; decide +kernel)) (blk_kW (D := D) (cA := cA) (n := 9) (kd := kdX3) (ad := ad5) (z := zz0)) (Clo.app (Clo.one (by decide)) (by unfold Clo; decide +kernel)) (by unfold Clo; decide +kernel)) (Blk.one (t := 0) (u := 0) (q := q6) (f := fun _ => 0) (n := 30) (e := .inl (cA 0, 30, .inl (fun _ => 0))) (by decide) rfl) (Clo.app (Clo.app (Clo.one (by decide)) (by unfold Clo; decide +kernel)) (by unfold Clo; decide +kernel)) (Clo.one (by decide))) (Clo.app (Clo.app (Clo.app (Clo.one (by decide)) (by unfold Clo; decide +kernel)) (by unfold Clo; decide +kernel)) (Clo.one (by decide))) rfl rfl (by decide +kernel) (fun c hc j => ((glue_z (glue_z (glue_z (fun _ _ => rfl) (fun _ _ => rfl)) (fun _ _ => rfl)) (fun _ _ => rfl)) c j).symm) rfl hP hD) dX8_init_42
set_option maxHeartbeats 4000000 in
set_option maxRecDepth 100000 in
theorem con_X0 {l : Launch} (D : va_G) (cA : Nat → ClassId) (h0 sz : Nat) : kCon l yX0_init cX0_init 1 1 39 666 D cA h0 [] (.inr (0, [.int 0, .int 0, .null, .null, .null, .null, .null, .null, .null, .null, .null])) sz 40 kdX0 zz0 := by
  refine c_met (own := RX0) rfl rfl rfl (Nat.le_of_ble_eq_true rfl) (fun p e s m below meth c A hAe X hrt hlk => ?_)
  have hX : cX s := X.2.2.2.2.2.2.2.2
  refine c_sub (lv' := [(0, .ref h0)]) [0] rfl ?_
  refine c_aload_n X dX0_init_0 0 rfl ?_
  refine c_obj X mw31 dX0_init_1 (kCR_one (by decide)) (Nat.le_of_ble_eq_true rfl) ?_
  refine c_eq (ws' := (h0, .inr (0, [.int 0, .int 0, .null, .null, .null, .null, .null, .null, .null, .null, .null])) :: ([])) rfl ?_
  refine c_aload_n X dX0_init_4 0 rfl ?_
  refine c_bipush X dX0_init_5 (by decide +kernel) ?_
  refine c_bipush X dX0_init_7 (by decide +kernel) ?_
  refine c_mna (t := 1) (n := 30) (k := 7) X (by decide) rfl mw32 (by decide) (by decide) (Nat.le_of_ble_eq_true rfl) (Nat.le_of_ble_eq_true rfl) dX0_init_9 (fun q1 r => ?_)
  refine c_eq (ws' := (h0, .inr (0, [.int 0, .int 0, .null, .null, .null, .null, .null, .null, .null, .null, .null])) :: (((q1, .inl (cA 2, 30, .inr (.inr (.inr (.inr (fun i => if i < 30 then some (r i) else none)))))) :: (List.range 30).map (fun i => (r i, .inl (cA 1, (7, .inl (fun _ => 0)))))))) rfl ?_
  refine c_putF (fs' := [.int 0, .int 0, .ref q1, .null, .null, .null, .null, .null, .null, .null, .null]) X ff_X0_11 (Nat.le_of_ble_eq_true rfl) rfl dX0_init_13 ?_
  refine c_aload_n X dX0_init_16 0 rfl ?_
  refine c_bipush X dX0_init_17 (by decide +kernel) ?_
  refine c_newi (n := 30) X (by decide) (Nat.le_of_ble_eq_true rfl) (Nat.le_of_ble_eq_true rfl) dX0_init_19 (fun q2 => ?_)
  refine c_cons ?_
  refine c_putF (fs' := [.int 0, .int 0, .ref q1, .ref q2, .null, .null, .null, .null, .null, .null, .null]) X ff_X0_16 (Nat.le_of_ble_eq_true rfl) rfl dX0_init_21 ?_
  refine c_aload_n X dX0_init_24 0 rfl ?_
  refine c_bipush X dX0_init_25 (by decide +kernel) ?_
  refine c_newi (n := 30) X (by decide) (Nat.le_of_ble_eq_true rfl) (Nat.le_of_ble_eq_true rfl) dX0_init_27 (fun q3 => ?_)
  refine c_cons ?_
  refine c_putF (fs' := [.int 0, .int 0, .ref q1, .ref q2, .ref q3, .null, .null, .null, .null, .null, .null]) X ff_X0_20 (Nat.le_of_ble_eq_true rfl) rfl dX0_init_29 ?_
  refine c_aload_n X dX0_init_32 0 rfl ?_
  refine c_bipush X dX0_init_33 (by decide +kernel) ?_
  refine c_newi (n := 61) X (by decide) (Nat.le_of_ble_eq_true rfl) (Nat.le_of_ble_eq_true rfl) dX0_init_35 (fun q4 => ?_)
  refine c_cons ?_
  refine c_putF (fs' := [.int 0, .int 0, .ref q1, .ref q2, .ref q3, .ref q4, .null, .null, .null, .null, .null]) X ff_X0_23 (Nat.le_of_ble_eq_true rfl) rfl dX0_init_37 ?_
  refine c_aload_n X dX0_init_40 0 rfl ?_
  refine c_bipush X dX0_init_41 (by decide +kernel) ?_
  refine c_newi (n := 61) X (by decide) (Nat.le_of_ble_eq_true rfl) (Nat.le_of_ble_eq_true rfl) dX0_init_43 (fun q5 => ?_)
  refine c_cons ?_
  refine c_putF (fs' := [.int 0, .int 0, .ref q1, .ref q2, .ref q3, .ref q4, .ref q5, .null, .null, .null, .null]) X ff_X0_26 (Nat.le_of_ble_eq_true rfl) rfl dX0_init_45 ?_
  refine c_aload_n X dX0_init_48 0 rfl ?_
  refine c_bipush X dX0_init_49 (by decide +kernel) ?_
  refine c_newi (n := 61) X (by decide) (Nat.le_of_ble_eq_true rfl) (Nat.le_of_ble_eq_true rfl) dX0_init_51 (fun q6 => ?_)
  refine c_cons ?_
  refine c_putF (fs' := [.int 0, .int 0, .ref q1, .ref q2, .ref q3, .ref q4, .ref q5, .ref q6, .null, .null, .null]) X ff_X0_29 (Nat.le_of_ble_eq_true rfl) rfl dX0_init_53 ?_
  refine c_aload_n X dX0_init_56 0 rfl ?_
  refine c_bipush X dX0_init_57 (by decide +kernel) ?_
  refine c_newi (n := 61) X (by decide) (Nat.le_of_ble_eq_true rfl) (Nat.le_of_ble_eq_true rfl) dX0_init_59 (fun q7 => ?_)
  refine c_cons ?_
  refine c_putF (fs' := [.int 0, .int 0, .ref q1, .ref q2, .ref q3, .ref q4, .ref q5, .ref q6, .ref q7, .null, .null]) X ff_X0_32 (Nat.le_of_ble_eq_true rfl) rfl dX0_init_61 ?_
  refine c_aload_n X dX0_init_64 0 rfl ?_
  refine c_bipush X dX0_init_65 (by decide +kernel) ?_
  refine c_newi (n := 61) X (by decide) (Nat.le_of_ble_eq_true rfl) (Nat.le_of_ble_eq_true rfl) dX0_init_67 (fun q8 => ?_)
  refine c_cons ?_
  refine c_putF (fs' := [.int 0, .int 0, .ref q1, .ref q2, .ref q3, .ref q4, .ref q5, .ref q6, .ref q7, .ref q8, .null]) X ff_X0_35 (Nat.le_of_ble_eq_true rfl) rfl dX0_init_69 ?_
  refine c_aload_n X dX0_init_72 0 rfl ?_
  refine c_bipush X dX0_init_73 (by decide +kernel) ?_
  refine c_newi (n := 61) X (by decide) (Nat.le_of_ble_eq_true rfl) (Nat.le_of_ble_eq_true rfl) dX0_init_75 (fun q9 => ?_)
  refine c_cons ?_
  refine c_putF (fs' := [.int 0, .int 0, .ref q1, .ref q2, .ref q3, .ref q4, .ref q5, .ref q6, .ref q7, .ref q8, .ref q9]) X ff_X0_38 (Nat.le_of_ble_eq_true rfl) rfl dX0_init_77 ?_
  exact c_ret (ad := fun c => if c = 0 then h0 else (glue (31 + 1 + 1 + 1 + 1 + 1 + 1 + 1) (glue (31 + 1 + 1 + 1 + 1 + 1 + 1) (glue (31 + 1 + 1 + 1 + 1 + 1) (glue (31 + 1 + 1 + 1 + 1) (glue (31 + 1 + 1 + 1) (glue (31 + 1 + 1) (glue (31 + 1) (glue (31) (fun c => if c = 0 then q1 else r (c - 1)) (fun _ => q2)) (fun _ => q3)) (fun _ => q4)) (fun _ => q5)) (fun _ => q6)) (fun _ => q7)) (fun _ => q8)) (fun _ => q9)) (c - 1)) X hrt hlk (Nat.le_of_ble_eq_true rfl) (Nat.le_of_ble_eq_true rfl) rfl (fun H hP hD => Blk.done (D := D) (cA := cA) (kdX := kdX0) (zX := zz0) (Blk.app (Blk.app (Blk.app (Blk.app (Blk.app (Blk.app (Blk.app (Blk.app (Blk.rows (t := 1) (u := 2) (n := 30) (k := 7) (q := q1) (r := r) (cR := cA 2) (cy := cA 1) (by decide) rfl rfl rfl) (Blk.one (t := 0) (u := 0) (q := q2) (f := fun _ => 0) (n := 30) (e := .inl (cA 0, 30, .inl (fun _ => 0))) (by decide) rfl) (by unfold Clo; decide +kernel) (Clo.one (by decide))) (Blk.one (t := 0) (u := 0) (q := q3) (f := fun _ => 0) (n := 30) (e := .inl (cA 0, 30, .inl (fun _ => 0))) (by decide) rfl) (Clo.app (by unfold Clo; decide +kernel) (Clo.one (by decide))) (Clo.one (by decide))) (Blk.one (t := 0) (u := 0) (q := q4) (f := fun _ => 0) (n := 61) (e := .inl (cA 0, 61, .inl (fun _ => 0))) (by decide) rfl) (Clo.app (Clo.app (by unfold Clo; decide +kernel) (Clo.one (by decide))) (Clo.one (by decide))) (Clo.one (by decide))) (Blk.one (t := 0) (u := 0) (q := q5) (f := fun _ => 0) (n := 61) (e := .inl (cA 0, 61, .inl (fun _ => 0))) (by decide) rfl) (Clo.app (Clo.app (Clo.app (by unfold Clo; decide +kernel) (Clo.one (by decide))) (Clo.one (by decide))) (Clo.one (by decide))) (Clo.one (by decide))) (Blk.one (t := 0) (u := 0) (q := q6) (f := fun _ => 0) (n := 61) (e := .inl (cA 0, 61, .inl (fun _ => 0))) (by decide) rfl) (Clo.app (Clo.app (Clo.app (Clo.app (by unfold Clo; decide +kernel) (Clo.one (by decide))) (Clo.one (by decide))) (Clo.one (by decide))) (Clo.one (by decide))) (Clo.one (by decide))) (Blk.one (t := 0) (u := 0) (q := q7) (f := fun _ => 0) (n := 61) (e := .inl (cA 0, 61, .inl (fun _ => 0))) (by decide) rfl) (Clo.app (Clo.app (Clo.app (Clo.app (Clo.app (by unfold Clo; decide +kernel) (Clo.one (by decide))) (Clo.one (by decide))) (Clo.one (by decide))) (Clo.one (by decide))) (Clo.one (by decide))) (Clo.one (by decide))) (Blk.one (t := 0) (u := 0) (q := q8) (f := fun _ => 0) (n := 61) (e := .inl (cA 0, 61, .inl (fun _ => 0))) (by decide) rfl) (Clo.app (Clo.app (Clo.app (Clo.app (Clo.app (Clo.app (by unfold Clo; decide +kernel) (Clo.one (by decide))) (Clo.one (by decide))) (Clo.one (by decide))) (Clo.one (by decide))) (Clo.one (by decide))) (Clo.one (by decide))) (Clo.one (by decide))) (Blk.one (t := 0) (u := 0) (q := q9) (f := fun _ => 0) (n := 61) (e := .inl (cA 0, 61, .inl (fun _ => 0))) (by decide) rfl) (Clo.app (Clo.app (Clo.app (Clo.app (Clo.app (Clo.app (Clo.app (by unfold Clo; decide +kernel) (Clo.one (by decide))) (Clo.one (by decide))) (Clo.one (by decide))) (Clo.one (by decide))) (Clo.one (by decide))) (Clo.one (by decide))) (Clo.one (by decide))) (Clo.one (by decide))) (Clo.app (Clo.app (Clo.app (Clo.app (Clo.app (Clo.app (Clo.app (Clo.app (by unfold Clo; decide +kernel) (Clo.one (by decide))) (Clo.one (by decide))) (Clo.one (by decide))) (Clo.one (by decide))) (Clo.one (by decide))) (Clo.one (by decide))) (Clo.one (by decide))) (Clo.one (by decide))) rfl rfl (by decide +kernel) (fun c hc j => ((glue_z (glue_z (glue_z (glue_z (glue_z (glue_z (glue_z (glue_z (fun _ _ => rfl) (fun _ _ => rfl)) (fun _ _ => rfl)) (fun _ _ => rfl)) (fun _ _ => rfl)) (fun _ _ => rfl)) (fun _ _ => rfl)) (fun _ _ => rfl)) (fun _ _ => rfl)) c j).symm) rfl hP hD) dX0_init_80
set_option maxHeartbeats 4000000 in
set_option maxRecDepth 100000 in
theorem con_X5_60 {l : Launch} (D : va_G) (cA : Nat → ClassId) (h0 sz : Nat) : kCon l yX5_init cX5_init 2 1 1 60 D cA h0 [kI 60] (.inr (5, [.null, .int 0])) sz 2 kdX5_60 zz0 := by
  refine c_met (own := RX5) rfl rfl rfl (Nat.le_of_ble_eq_true rfl) (fun p e s m below meth c A hAe X hrt hlk => ?_)
  have hX : cX s := X.2.2.2.2.2.2.2.2
  refine c_sub (lv' := [(0, .ref h0), (1, kI 60)]) [0, 1] rfl ?_
  refine c_aload_n X dX5_init_0 0 rfl ?_
  refine c_obj X mw84 dX5_init_1 (kCR_one (by decide)) (Nat.le_of_ble_eq_true rfl) ?_
  refine c_eq (ws' := (h0, .inr (5, [.null, .int 0])) :: ([])) rfl ?_
  refine c_aload_n X dX5_init_4 0 rfl ?_
  refine c_iload_n X dX5_init_5 1 rfl ?_
  refine c_newb (n := 60) X (by decide) (Nat.le_of_ble_eq_true rfl) (Nat.le_of_ble_eq_true rfl) dX5_init_6 (fun q1 => ?_)
  refine c_eq (ws' := (h0, .inr (5, [.null, .int 0])) :: ([(q1, .inl (cA 1, 60, .inl (fun _ => 0)))])) rfl ?_
  refine c_putF (fs' := [.ref q1, .int 0]) X ff_X5_9 (Nat.le_of_ble_eq_true rfl) rfl dX5_init_8 ?_
  exact c_ret (ad := fun c => if c = 0 then h0 else (fun _ => q1) (c - 1)) X hrt hlk (Nat.le_of_ble_eq_true rfl) (Nat.le_of_ble_eq_true rfl) rfl (fun H hP hD => Blk.done (D := D) (cA := cA) (kdX := kdX5_60) (zX := zz0) (Blk.one (t := 1) (u := 0) (q := q1) (f := fun _ => 0) (n := 60) (e := .inl (cA 1, 60, .inl (fun _ => 0))) (by decide) rfl) (Clo.one (by decide)) rfl rfl (by decide +kernel) (fun c hc j => ((fun _ _ => rfl) c j).symm) rfl hP hD) dX5_init_11
set_option maxHeartbeats 4000000 in
set_option maxRecDepth 100000 in
theorem con_X5_400 {l : Launch} (D : va_G) (cA : Nat → ClassId) (h0 sz : Nat) : kCon l yX5_init cX5_init 2 1 1 400 D cA h0 [kI 400] (.inr (5, [.null, .int 0])) sz 2 kdX5_400 zz0 := by
  refine c_met (own := RX5) rfl rfl rfl (Nat.le_of_ble_eq_true rfl) (fun p e s m below meth c A hAe X hrt hlk => ?_)
  have hX : cX s := X.2.2.2.2.2.2.2.2
  refine c_sub (lv' := [(0, .ref h0), (1, kI 400)]) [0, 1] rfl ?_
  refine c_aload_n X dX5_init_0 0 rfl ?_
  refine c_obj X mw84 dX5_init_1 (kCR_one (by decide)) (Nat.le_of_ble_eq_true rfl) ?_
  refine c_eq (ws' := (h0, .inr (5, [.null, .int 0])) :: ([])) rfl ?_
  refine c_aload_n X dX5_init_4 0 rfl ?_
  refine c_iload_n X dX5_init_5 1 rfl ?_
  refine c_newb (n := 400) X (by decide) (Nat.le_of_ble_eq_true rfl) (Nat.le_of_ble_eq_true rfl) dX5_init_6 (fun q1 => ?_)
  refine c_eq (ws' := (h0, .inr (5, [.null, .int 0])) :: ([(q1, .inl (cA 1, 400, .inl (fun _ => 0)))])) rfl ?_
  refine c_putF (fs' := [.ref q1, .int 0]) X ff_X5_9 (Nat.le_of_ble_eq_true rfl) rfl dX5_init_8 ?_
  exact c_ret (ad := fun c => if c = 0 then h0 else (fun _ => q1) (c - 1)) X hrt hlk (Nat.le_of_ble_eq_true rfl) (Nat.le_of_ble_eq_true rfl) rfl (fun H hP hD => Blk.done (D := D) (cA := cA) (kdX := kdX5_400) (zX := zz0) (Blk.one (t := 1) (u := 0) (q := q1) (f := fun _ => 0) (n := 400) (e := .inl (cA 1, 400, .inl (fun _ => 0))) (by decide) rfl) (Clo.one (by decide)) rfl rfl (by decide +kernel) (fun c hc j => ((fun _ _ => rfl) c j).symm) rfl hP hD) dX5_init_11
set_option maxHeartbeats 4000000 in
set_option maxRecDepth 100000 in
theorem con_X4 {l : Launch} (D : va_G) (cA : Nat → ClassId) (h0 sz : Nat) : kCon l yX4_init cX4_init 1 1 0 0 D cA h0 [] (.inr (4, [.int 0, .int 0, .int 0, .int 0, .int 0, .int 0, .int 0, .int 0])) sz 1 kdX4 zz0 := by
  refine c_met (own := RX4) rfl rfl rfl (Nat.le_of_ble_eq_true rfl) (fun p e s m below meth c A hAe X hrt hlk => ?_)
  have hX : cX s := X.2.2.2.2.2.2.2.2
  refine c_sub (lv' := [(0, .ref h0)]) [0] rfl ?_
  refine c_aload_n X dX4_init_0 0 rfl ?_
  refine c_obj X mw97 dX4_init_1 (kCR_one (by decide)) (Nat.le_of_ble_eq_true rfl) ?_
  refine c_eq (ws' := (h0, .inr (4, [.int 0, .int 0, .int 0, .int 0, .int 0, .int 0, .int 0, .int 0])) :: ([])) rfl ?_
  exact c_ret (ad := fun c => if c = 0 then h0 else (fun _ => 0) (c - 1)) X hrt hlk (Nat.le_of_ble_eq_true rfl) (Nat.le_of_ble_eq_true rfl) rfl (fun H hP hD => Blk.done (D := D) (cA := cA) (kdX := kdX4) (zX := zz0) (Blk.nil) Clo.nil rfl rfl (by decide +kernel) (fun c hc j => ((fun _ _ => rfl : ∀ (c j : Nat), (zz0 : Hp) c j = 0) c j).symm) rfl hP hD) dX4_init_4
set_option maxHeartbeats 4000000 in
set_option maxRecDepth 100000 in
theorem con_X7 {l : Launch} (D : va_G) (cA : Nat → ClassId) (h0 sz : Nat) : kCon l yX7_init cX7_init 1 1 2 60 D cA h0 [] (.inr (6, [.null, .null, .int 0, .int 0, .int 0])) sz 3 kdX7 zz0 := by
  refine c_met (own := RX7) rfl rfl rfl (Nat.le_of_ble_eq_true rfl) (fun p e s m below meth c A hAe X hrt hlk => ?_)
  have hX : cX s := X.2.2.2.2.2.2.2.2
  refine c_sub (lv' := [(0, .ref h0)]) [0] rfl ?_
  refine c_aload_n X dX7_init_0 0 rfl ?_
  refine c_obj X mw222 dX7_init_1 (kCR_one (by decide)) (Nat.le_of_ble_eq_true rfl) ?_
  refine c_eq (ws' := (h0, .inr (6, [.null, .null, .int 0, .int 0, .int 0])) :: ([])) rfl ?_
  refine c_aload_n X dX7_init_4 0 rfl ?_
  refine c_bipush X dX7_init_5 (by decide +kernel) ?_
  refine c_newi (n := 30) X (by decide) (Nat.le_of_ble_eq_true rfl) (Nat.le_of_ble_eq_true rfl) dX7_init_7 (fun q1 => ?_)
  refine c_eq (ws' := (h0, .inr (6, [.null, .null, .int 0, .int 0, .int 0])) :: ([(q1, .inl (cA 0, 30, .inl (fun _ => 0)))])) rfl ?_
  refine c_putF (fs' := [.ref q1, .null, .int 0, .int 0, .int 0]) X ff_X7_9 (Nat.le_of_ble_eq_true rfl) rfl dX7_init_9 ?_
  refine c_aload_n X dX7_init_12 0 rfl ?_
  refine c_bipush X dX7_init_13 (by decide +kernel) ?_
  refine c_newi (n := 30) X (by decide) (Nat.le_of_ble_eq_true rfl) (Nat.le_of_ble_eq_true rfl) dX7_init_15 (fun q2 => ?_)
  refine c_cons ?_
  refine c_putF (fs' := [.ref q1, .ref q2, .int 0, .int 0, .int 0]) X ff_X7_15 (Nat.le_of_ble_eq_true rfl) rfl dX7_init_17 ?_
  exact c_ret (ad := fun c => if c = 0 then h0 else (glue (1) (fun _ => q1) (fun _ => q2)) (c - 1)) X hrt hlk (Nat.le_of_ble_eq_true rfl) (Nat.le_of_ble_eq_true rfl) rfl (fun H hP hD => Blk.done (D := D) (cA := cA) (kdX := kdX7) (zX := zz0) (Blk.app (Blk.one (t := 0) (u := 0) (q := q1) (f := fun _ => 0) (n := 30) (e := .inl (cA 0, 30, .inl (fun _ => 0))) (by decide) rfl) (Blk.one (t := 0) (u := 0) (q := q2) (f := fun _ => 0) (n := 30) (e := .inl (cA 0, 30, .inl (fun _ => 0))) (by decide) rfl) (Clo.one (by decide)) (Clo.one (by decide))) (Clo.app (Clo.one (by decide)) (Clo.one (by decide))) rfl rfl (by decide +kernel) (fun c hc j => ((glue_z (fun _ _ => rfl) (fun _ _ => rfl)) c j).symm) rfl hP hD) dX7_init_20
set_option maxHeartbeats 4000000 in
set_option maxRecDepth 100000 in
theorem con_X2 {l : Launch} (D : va_G) (cA : Nat → ClassId) (h0 sz : Nat) : kCon l yX2_init cX2_init 1 1 6 168 D cA h0 [] (.inr (2, [.null, .null])) sz 7 kdX2 zL := by
  refine c_met (own := RX2) rfl rfl rfl (Nat.le_of_ble_eq_true rfl) (fun p e s m below meth c A hAe X hrt hlk => ?_)
  have hX : cX s := X.2.2.2.2.2.2.2.2
  refine c_sub (lv' := [(0, .ref h0)]) [0] rfl ?_
  refine c_aload_n X dX2_init_0 0 rfl ?_
  refine c_obj X mw242 dX2_init_1 (kCR_one (by decide)) (Nat.le_of_ble_eq_true rfl) ?_
  refine c_eq (ws' := (h0, .inr (2, [.null, .null])) :: ([])) rfl ?_
  refine c_aload_n X dX2_init_4 0 rfl ?_
  refine c_iconst X dX2_init_5 ?_
  refine c_bipush X dX2_init_6 (by decide +kernel) ?_
  refine c_mna (t := 0) (n := 4) (k := 40) X (by decide) rfl mw243 (by decide) (by decide) (Nat.le_of_ble_eq_true rfl) (Nat.le_of_ble_eq_true rfl) dX2_init_8 (fun q1 r => ?_)
  refine c_eq (ws' := (h0, .inr (2, [.null, .null])) :: (((q1, .inl (cA 3, 4, .inr (.inr (.inr (.inr (fun i => if i < 4 then some (r i) else none)))))) :: (List.range 4).map (fun i => (r i, .inl (cA 0, (40, .inl (fun _ => 0)))))))) rfl ?_
  refine c_putF (fs' := [.ref q1, .null]) X ff_X2_11 (Nat.le_of_ble_eq_true rfl) rfl dX2_init_12 ?_
  refine c_aload_n X dX2_init_15 0 rfl ?_
  refine c_iconst X dX2_init_16 ?_
  refine c_newi (n := 4) X (by decide) (Nat.le_of_ble_eq_true rfl) (Nat.le_of_ble_eq_true rfl) dX2_init_17 (fun q2 => ?_)
  refine c_cons ?_
  refine c_dup X dX2_init_19 rfl ?_
  refine c_iconst X dX2_init_20 ?_
  refine c_iconst X dX2_init_21 ?_
  refine c_iast (ws' := (h0, .inr (2, [.ref q1, .null])) :: ((((q1, .inl (cA 3, 4, .inr (.inr (.inr (.inr (fun i => if i < 4 then some (r i) else none)))))) :: (List.range 4).map (fun i => (r i, .inl (cA 0, (40, .inl (fun _ => 0)))))) ++ [(q2, .inl (cA 0, 4, .inl (upd (fun _ => 0) 0 (Int32.ofInt (-1)))))]))) X 6 rfl (Nat.le_of_ble_eq_true rfl) ⟨by decide, by decide⟩ rfl dX2_init_22 ?_
  refine c_dup X dX2_init_23 rfl ?_
  refine c_iconst X dX2_init_24 ?_
  refine c_iconst X dX2_init_25 ?_
  refine c_iast (ws' := (h0, .inr (2, [.ref q1, .null])) :: ((((q1, .inl (cA 3, 4, .inr (.inr (.inr (.inr (fun i => if i < 4 then some (r i) else none)))))) :: (List.range 4).map (fun i => (r i, .inl (cA 0, (40, .inl (fun _ => 0)))))) ++ [(q2, .inl (cA 0, 4, .inl (upd (upd (fun _ => 0) 0 (Int32.ofInt (-1))) 1 (Int32.ofInt (-1)))))]))) X 6 rfl (Nat.le_of_ble_eq_true rfl) ⟨by decide, by decide⟩ rfl dX2_init_26 ?_
  refine c_dup X dX2_init_27 rfl ?_
  refine c_iconst X dX2_init_28 ?_
  refine c_iconst X dX2_init_29 ?_
  refine c_iast (ws' := (h0, .inr (2, [.ref q1, .null])) :: ((((q1, .inl (cA 3, 4, .inr (.inr (.inr (.inr (fun i => if i < 4 then some (r i) else none)))))) :: (List.range 4).map (fun i => (r i, .inl (cA 0, (40, .inl (fun _ => 0)))))) ++ [(q2, .inl (cA 0, 4, .inl (upd (upd (upd (fun _ => 0) 0 (Int32.ofInt (-1))) 1 (Int32.ofInt (-1))) 2 (Int32.ofInt (-1)))))]))) X 6 rfl (Nat.le_of_ble_eq_true rfl) ⟨by decide, by decide⟩ rfl dX2_init_30 ?_
  refine c_dup X dX2_init_31 rfl ?_
  refine c_iconst X dX2_init_32 ?_
  refine c_iconst X dX2_init_33 ?_
  refine c_iast (ws' := (h0, .inr (2, [.ref q1, .null])) :: ((((q1, .inl (cA 3, 4, .inr (.inr (.inr (.inr (fun i => if i < 4 then some (r i) else none)))))) :: (List.range 4).map (fun i => (r i, .inl (cA 0, (40, .inl (fun _ => 0)))))) ++ [(q2, .inl (cA 0, 4, .inl (upd (upd (upd (upd (fun _ => 0) 0 (Int32.ofInt (-1))) 1 (Int32.ofInt (-1))) 2 (Int32.ofInt (-1))) 3 (Int32.ofInt (-1)))))]))) X 6 rfl (Nat.le_of_ble_eq_true rfl) ⟨by decide, by decide⟩ rfl dX2_init_34 ?_
  refine c_putF (fs' := [.ref q1, .ref q2]) X ff_X2_14 (Nat.le_of_ble_eq_true rfl) rfl dX2_init_35 ?_
  exact c_ret (ad := fun c => if c = 0 then h0 else (glue (5) (fun c => if c = 0 then q1 else r (c - 1)) (fun _ => q2)) (c - 1)) X hrt hlk (Nat.le_of_ble_eq_true rfl) (Nat.le_of_ble_eq_true rfl) rfl (fun H hP hD => Blk.done (D := D) (cA := cA) (kdX := kdX2) (zX := zL) (Blk.app (Blk.rows (t := 0) (u := 3) (n := 4) (k := 40) (q := q1) (r := r) (cR := cA 3) (cy := cA 0) (by decide) rfl rfl rfl) (Blk.one (t := 0) (u := 0) (q := q2) (f := fun j => if j < 4 then -1 else 0) (n := 4) (e := .inl (cA 0, 4, .inl (upd (upd (upd (upd (fun _ => 0) 0 (Int32.ofInt (-1))) 1 (Int32.ofInt (-1))) 2 (Int32.ofInt (-1))) 3 (Int32.ofInt (-1))))) (by decide) (upd4 _)) (by unfold Clo; decide +kernel) (Clo.one (by decide))) (Clo.app (by unfold Clo; decide +kernel) (Clo.one (by decide))) rfl rfl (by decide +kernel) (zL_of (fun _ _ => rfl)) rfl hP hD) dX2_init_38
set_option maxHeartbeats 4000000 in
set_option maxRecDepth 100000 in
theorem con_X9 {l : Launch} (D : va_G) (cA : Nat → ClassId) (h0 sz : Nat) : kCon l yX9_init cX9_init 1 3 142 7769 D cA h0 [] (.inr (8, [.null, .null, .int 0, .null, .null, .null, .null, .null, .int 0, .null, .int 0, .int 0, .null, .null])) sz 143 kdX9 zC0 := by
  refine c_met (own := RX9) rfl rfl rfl (Nat.le_of_ble_eq_true rfl) (fun p e s m below meth c A hAe X hrt hlk => ?_)
  have hX : cX s := X.2.2.2.2.2.2.2.2
  refine c_sub (lv' := [(0, .ref h0)]) [0] rfl ?_
  refine c_aload_n X dX9_init_0 0 rfl ?_
  refine c_obj X mw24 dX9_init_1 (kCR_one (by decide)) (Nat.le_of_ble_eq_true rfl) ?_
  refine c_eq (ws' := (h0, .inr (8, [.null, .null, .int 0, .null, .null, .null, .null, .null, .int 0, .null, .int 0, .int 0, .null, .null])) :: ([])) rfl ?_
  refine c_aload_n X dX9_init_4 0 rfl ?_
  refine c_new (ci := 0) (C := RX0) (T := TX0) (n := 11) (fs := [.int 0, .int 0, .null, .null, .null, .null, .null, .null, .null, .null, .null]) X tyX0 rfl inG0 tyX0_ok mw27 mw28 mw2 (by decide +kernel) (Nat.le_of_ble_eq_true rfl) (Nat.le_of_ble_eq_true rfl) dX9_init_5 (fun q1 => ?_)
  refine c_dup X dX9_init_8 rfl ?_
  refine c_conN (R := kCR 3 142 7769) (cn := 1) (sn := 11) (q := q1) (st := [.ref q1, .ref h0]) (ws := (h0, .inr (8, [.null, .null, .int 0, .null, .null, .null, .null, .null, .int 0, .null, .int 0, .int 0, .null, .null])) :: ([])) (as := []) X (fun sz => con_X0 D cA q1 sz) (hX.2.2.1) mw29 mw2 mw30 rfl yi_X0 rfl (kCR_ok (by decide) (by decide)) (Nat.le_of_ble_eq_true rfl) (Nat.le_of_ble_eq_true rfl) (Nat.le_of_ble_eq_true rfl) dX9_init_9 (fun ad2 had2 => ?_)
  refine c_eq (ws' := (h0, .inr (8, [.null, .null, .int 0, .null, .null, .null, .null, .null, .int 0, .null, .int 0, .int 0, .null, .null])) :: (kW 40 kdX0 cA ad2 zz0)) rfl ?_
  rw [← had2]
  refine c_putF (fs' := [.ref (ad2 0), .null, .int 0, .null, .null, .null, .null, .null, .int 0, .null, .int 0, .int 0, .null, .null]) X ff_X9_14 (Nat.le_of_ble_eq_true rfl) rfl dX9_init_12 ?_
  refine c_aload_n X dX9_init_15 0 rfl ?_
  refine c_new (ci := 0) (C := RX0) (T := TX0) (n := 11) (fs := [.int 0, .int 0, .null, .null, .null, .null, .null, .null, .null, .null, .null]) X tyX0 rfl inG0 tyX0_ok mw27 mw28 mw2 (by decide +kernel) (Nat.le_of_ble_eq_true rfl) (Nat.le_of_ble_eq_true rfl) dX9_init_16 (fun q3 => ?_)
  refine c_dup X dX9_init_19 rfl ?_
  refine c_conN (R := kCR 3 142 7769) (cn := 41) (sn := 688) (q := q3) (st := [.ref q3, .ref h0]) (ws := (h0, .inr (8, [.ref (ad2 0), .null, .int 0, .null, .null, .null, .null, .null, .int 0, .null, .int 0, .int 0, .null, .null])) :: (kW 40 kdX0 cA ad2 zz0)) (as := []) X (fun sz => con_X0 D cA q3 sz) (hX.2.2.1) mw29 mw2 mw30 rfl yi_X0 rfl (kCR_ok (by decide) (by decide)) (Nat.le_of_ble_eq_true rfl) (Nat.le_of_ble_eq_true rfl) (Nat.le_of_ble_eq_true rfl) dX9_init_20 (fun ad4 had4 => ?_)
  refine c_cons ?_
  rw [← had4]
  refine c_putF (fs' := [.ref (ad2 0), .ref (ad4 0), .int 0, .null, .null, .null, .null, .null, .int 0, .null, .int 0, .int 0, .null, .null]) X ff_X9_18 (Nat.le_of_ble_eq_true rfl) rfl dX9_init_23 ?_
  refine c_aload_n X dX9_init_26 0 rfl ?_
  refine c_new (ci := 5) (C := RX5) (T := TX5) (n := 2) (fs := [.null, .int 0]) X tyX5 rfl inG5 tyX5_ok mw79 mw80 mw3 (by decide +kernel) (Nat.le_of_ble_eq_true rfl) (Nat.le_of_ble_eq_true rfl) dX9_init_27 (fun q5 => ?_)
  refine c_dup X dX9_init_30 rfl ?_
  refine c_bipush X dX9_init_31 (by decide +kernel) ?_
  refine c_con (R := kCR 3 142 7769) (cn := 81) (sn := 1356) (q := q5) (st := [.ref q5, .ref h0]) (ws := (h0, .inr (8, [.ref (ad2 0), .ref (ad4 0), .int 0, .null, .null, .null, .null, .null, .int 0, .null, .int 0, .int 0, .null, .null])) :: ((kW 40 kdX0 cA ad2 zz0 ++ kW 40 kdX0 cA ad4 zz0))) (as := [kI 60]) X (fun sz => con_X5_60 D cA q5 sz) mw81 mw82 mw3 mw83 rfl yi_X5 rfl (kCR_ok (by decide) (by decide)) (Nat.le_of_ble_eq_true rfl) (Nat.le_of_ble_eq_true rfl) (Nat.le_of_ble_eq_true rfl) dX9_init_33 (fun ad6 had6 => ?_)
  refine c_cons ?_
  rw [← had6]
  refine c_putF (fs' := [.ref (ad2 0), .ref (ad4 0), .int 0, .ref (ad6 0), .null, .null, .null, .null, .int 0, .null, .int 0, .int 0, .null, .null]) X ff_X9_26 (Nat.le_of_ble_eq_true rfl) rfl dX9_init_36 ?_
  refine c_aload_n X dX9_init_39 0 rfl ?_
  refine c_new (ci := 5) (C := RX5) (T := TX5) (n := 2) (fs := [.null, .int 0]) X tyX5 rfl inG5 tyX5_ok mw79 mw80 mw3 (by decide +kernel) (Nat.le_of_ble_eq_true rfl) (Nat.le_of_ble_eq_true rfl) dX9_init_40 (fun q7 => ?_)
  refine c_dup X dX9_init_43 rfl ?_
  refine c_sipush X dX9_init_44 (by decide +kernel) ?_
  refine c_con (R := kCR 3 142 7769) (cn := 83) (sn := 1418) (q := q7) (st := [.ref q7, .ref h0]) (ws := (h0, .inr (8, [.ref (ad2 0), .ref (ad4 0), .int 0, .ref (ad6 0), .null, .null, .null, .null, .int 0, .null, .int 0, .int 0, .null, .null])) :: (((kW 40 kdX0 cA ad2 zz0 ++ kW 40 kdX0 cA ad4 zz0) ++ kW 2 kdX5_60 cA ad6 zz0))) (as := [kI 400]) X (fun sz => con_X5_400 D cA q7 sz) mw81 mw82 mw3 mw83 rfl yi_X5 rfl (kCR_ok (by decide) (by decide)) (Nat.le_of_ble_eq_true rfl) (Nat.le_of_ble_eq_true rfl) (Nat.le_of_ble_eq_true rfl) dX9_init_47 (fun ad8 had8 => ?_)
  refine c_cons ?_
  rw [← had8]
  refine c_putF (fs' := [.ref (ad2 0), .ref (ad4 0), .int 0, .ref (ad6 0), .ref (ad8 0), .null, .null, .null, .int 0, .null, .int 0, .int 0, .null, .null]) X ff_X9_30 (Nat.le_of_ble_eq_true rfl) rfl dX9_init_50 ?_
  refine c_aload_n X dX9_init_53 0 rfl ?_
  refine c_new (ci := 4) (C := RX4) (T := TX4) (n := 8) (fs := [.int 0, .int 0, .int 0, .int 0, .int 0, .int 0, .int 0, .int 0]) X tyX4 rfl inG4 tyX4_ok mw93 mw94 mw4 (by decide +kernel) (Nat.le_of_ble_eq_true rfl) (Nat.le_of_ble_eq_true rfl) dX9_init_54 (fun q9 => ?_)
  refine c_dup X dX9_init_57 rfl ?_
  refine c_conN (R := kCR 3 142 7769) (cn := 85) (sn := 1826) (q := q9) (st := [.ref q9, .ref h0]) (ws := (h0, .inr (8, [.ref (ad2 0), .ref (ad4 0), .int 0, .ref (ad6 0), .ref (ad8 0), .null, .null, .null, .int 0, .null, .int 0, .int 0, .null, .null])) :: ((((kW 40 kdX0 cA ad2 zz0 ++ kW 40 kdX0 cA ad4 zz0) ++ kW 2 kdX5_60 cA ad6 zz0) ++ kW 2 kdX5_400 cA ad8 zz0))) (as := []) X (fun sz => con_X4 D cA q9 sz) (hX.2.2.2.1) mw95 mw4 mw96 rfl yi_X4 rfl (kCR_ok (by decide) (by decide)) (Nat.le_of_ble_eq_true rfl) (Nat.le_of_ble_eq_true rfl) (Nat.le_of_ble_eq_true rfl) dX9_init_58 (fun ad10 had10 => ?_)
  refine c_cons ?_
  rw [← had10]
  refine c_putF (fs' := [.ref (ad2 0), .ref (ad4 0), .int 0, .ref (ad6 0), .ref (ad8 0), .ref (ad10 0), .null, .null, .int 0, .null, .int 0, .int 0, .null, .null]) X ff_X9_36 (Nat.le_of_ble_eq_true rfl) rfl dX9_init_61 ?_
  refine c_aload_n X dX9_init_64 0 rfl ?_
  refine c_new (ci := 7) (C := RX8) (T := TX8) (n := 7) (fs := [.null, .int 0, .null, .null, .int 0, .int 0, .null]) X tyX8 rfl inG8 tyX8_ok mw120 mw121 mw5 (by decide +kernel) (Nat.le_of_ble_eq_true rfl) (Nat.le_of_ble_eq_true rfl) dX9_init_65 (fun q11 => ?_)
  refine c_dup X dX9_init_68 rfl ?_
  refine c_conN (R := kCR 3 142 7769) (cn := 86) (sn := 1833) (q := q11) (st := [.ref q11, .ref h0]) (ws := (h0, .inr (8, [.ref (ad2 0), .ref (ad4 0), .int 0, .ref (ad6 0), .ref (ad8 0), .ref (ad10 0), .null, .null, .int 0, .null, .int 0, .int 0, .null, .null])) :: (((((kW 40 kdX0 cA ad2 zz0 ++ kW 40 kdX0 cA ad4 zz0) ++ kW 2 kdX5_60 cA ad6 zz0) ++ kW 2 kdX5_400 cA ad8 zz0) ++ kW 1 kdX4 cA ad10 zz0))) (as := []) X (fun sz => con_X8 D cA q11 sz) (hX.2.2.2.2.1) mw122 mw5 mw123 rfl yi_X8 rfl (kCR_ok (by decide) (by decide)) (Nat.le_of_ble_eq_true rfl) (Nat.le_of_ble_eq_true rfl) (Nat.le_of_ble_eq_true rfl) dX9_init_69 (fun ad12 had12 => ?_)
  refine c_cons ?_
  rw [← had12]
  refine c_putF (fs' := [.ref (ad2 0), .ref (ad4 0), .int 0, .ref (ad6 0), .ref (ad8 0), .ref (ad10 0), .ref (ad12 0), .null, .int 0, .null, .int 0, .int 0, .null, .null]) X ff_X9_43 (Nat.le_of_ble_eq_true rfl) rfl dX9_init_72 ?_
  refine c_aload_n X dX9_init_75 0 rfl ?_
  refine c_new (ci := 7) (C := RX8) (T := TX8) (n := 7) (fs := [.null, .int 0, .null, .null, .int 0, .int 0, .null]) X tyX8 rfl inG8 tyX8_ok mw120 mw121 mw5 (by decide +kernel) (Nat.le_of_ble_eq_true rfl) (Nat.le_of_ble_eq_true rfl) dX9_init_76 (fun q13 => ?_)
  refine c_dup X dX9_init_79 rfl ?_
  refine c_conN (R := kCR 3 142 7769) (cn := 109) (sn := 4657) (q := q13) (st := [.ref q13, .ref h0]) (ws := (h0, .inr (8, [.ref (ad2 0), .ref (ad4 0), .int 0, .ref (ad6 0), .ref (ad8 0), .ref (ad10 0), .ref (ad12 0), .null, .int 0, .null, .int 0, .int 0, .null, .null])) :: ((((((kW 40 kdX0 cA ad2 zz0 ++ kW 40 kdX0 cA ad4 zz0) ++ kW 2 kdX5_60 cA ad6 zz0) ++ kW 2 kdX5_400 cA ad8 zz0) ++ kW 1 kdX4 cA ad10 zz0) ++ kW 23 kdX8 cA ad12 zz0))) (as := []) X (fun sz => con_X8 D cA q13 sz) (hX.2.2.2.2.1) mw122 mw5 mw123 rfl yi_X8 rfl (kCR_ok (by decide) (by decide)) (Nat.le_of_ble_eq_true rfl) (Nat.le_of_ble_eq_true rfl) (Nat.le_of_ble_eq_true rfl) dX9_init_80 (fun ad14 had14 => ?_)
  refine c_cons ?_
  rw [← had14]
  refine c_putF (fs' := [.ref (ad2 0), .ref (ad4 0), .int 0, .ref (ad6 0), .ref (ad8 0), .ref (ad10 0), .ref (ad12 0), .ref (ad14 0), .int 0, .null, .int 0, .int 0, .null, .null]) X ff_X9_47 (Nat.le_of_ble_eq_true rfl) rfl dX9_init_83 ?_
  refine c_aload_n X dX9_init_86 0 rfl ?_
  refine c_bipush X dX9_init_87 (by decide +kernel) ?_
  refine c_newi (n := 60) X (by decide) (Nat.le_of_ble_eq_true rfl) (Nat.le_of_ble_eq_true rfl) dX9_init_89 (fun q15 => ?_)
  refine c_cons ?_
  refine c_putF (fs' := [.ref (ad2 0), .ref (ad4 0), .int 0, .ref (ad6 0), .ref (ad8 0), .ref (ad10 0), .ref (ad12 0), .ref (ad14 0), .int 0, .ref q15, .int 0, .int 0, .null, .null]) X ff_X9_50 (Nat.le_of_ble_eq_true rfl) rfl dX9_init_91 ?_
  refine c_aload_n X dX9_init_94 0 rfl ?_
  refine c_new (ci := 6) (C := RX7) (T := TX7) (n := 5) (fs := [.null, .null, .int 0, .int 0, .int 0]) X tyX7 rfl inG7 tyX7_ok mw218 mw219 mw8 (by decide +kernel) (Nat.le_of_ble_eq_true rfl) (Nat.le_of_ble_eq_true rfl) dX9_init_95 (fun q16 => ?_)
  refine c_dup X dX9_init_98 rfl ?_
  refine c_conN (R := kCR 3 142 7769) (cn := 133) (sn := 7539) (q := q16) (st := [.ref q16, .ref h0]) (ws := (h0, .inr (8, [.ref (ad2 0), .ref (ad4 0), .int 0, .ref (ad6 0), .ref (ad8 0), .ref (ad10 0), .ref (ad12 0), .ref (ad14 0), .int 0, .ref q15, .int 0, .int 0, .null, .null])) :: ((((((((kW 40 kdX0 cA ad2 zz0 ++ kW 40 kdX0 cA ad4 zz0) ++ kW 2 kdX5_60 cA ad6 zz0) ++ kW 2 kdX5_400 cA ad8 zz0) ++ kW 1 kdX4 cA ad10 zz0) ++ kW 23 kdX8 cA ad12 zz0) ++ kW 23 kdX8 cA ad14 zz0) ++ [(q15, .inl (cA 0, 60, .inl (fun _ => 0)))]))) (as := []) X (fun sz => con_X7 D cA q16 sz) (hX.2.2.2.2.2.2.2.1) mw220 mw8 mw221 rfl yi_X7 rfl (kCR_ok (by decide) (by decide)) (Nat.le_of_ble_eq_true rfl) (Nat.le_of_ble_eq_true rfl) (Nat.le_of_ble_eq_true rfl) dX9_init_99 (fun ad17 had17 => ?_)
  refine c_cons ?_
  rw [← had17]
  refine c_putF (fs' := [.ref (ad2 0), .ref (ad4 0), .int 0, .ref (ad6 0), .ref (ad8 0), .ref (ad10 0), .ref (ad12 0), .ref (ad14 0), .int 0, .ref q15, .int 0, .int 0, .ref (ad17 0), .null]) X ff_X9_57 (Nat.le_of_ble_eq_true rfl) rfl dX9_init_102 ?_
  refine c_aload_n X dX9_init_105 0 rfl ?_
  refine c_new (ci := 2) (C := RX2) (T := TX2) (n := 2) (fs := [.null, .null]) X tyX2 rfl inG2 tyX2_ok mw238 mw239 mw9 (by decide +kernel) (Nat.le_of_ble_eq_true rfl) (Nat.le_of_ble_eq_true rfl) dX9_init_106 (fun q18 => ?_)
  refine c_dup X dX9_init_109 rfl ?_
  refine c_conN (R := kCR 3 142 7769) (cn := 136) (sn := 7601) (q := q18) (st := [.ref q18, .ref h0]) (ws := (h0, .inr (8, [.ref (ad2 0), .ref (ad4 0), .int 0, .ref (ad6 0), .ref (ad8 0), .ref (ad10 0), .ref (ad12 0), .ref (ad14 0), .int 0, .ref q15, .int 0, .int 0, .ref (ad17 0), .null])) :: (((((((((kW 40 kdX0 cA ad2 zz0 ++ kW 40 kdX0 cA ad4 zz0) ++ kW 2 kdX5_60 cA ad6 zz0) ++ kW 2 kdX5_400 cA ad8 zz0) ++ kW 1 kdX4 cA ad10 zz0) ++ kW 23 kdX8 cA ad12 zz0) ++ kW 23 kdX8 cA ad14 zz0) ++ [(q15, .inl (cA 0, 60, .inl (fun _ => 0)))]) ++ kW 3 kdX7 cA ad17 zz0))) (as := []) X (fun sz => con_X2 D cA q18 sz) (hX.2.2.2.2.2.2.2.2) mw240 mw9 mw241 rfl yi_X2 rfl (kCR_ok (by decide) (by decide)) (Nat.le_of_ble_eq_true rfl) (Nat.le_of_ble_eq_true rfl) (Nat.le_of_ble_eq_true rfl) dX9_init_110 (fun ad19 had19 => ?_)
  refine c_cons ?_
  rw [← had19]
  refine c_putF (fs' := [.ref (ad2 0), .ref (ad4 0), .int 0, .ref (ad6 0), .ref (ad8 0), .ref (ad10 0), .ref (ad12 0), .ref (ad14 0), .int 0, .ref q15, .int 0, .int 0, .ref (ad17 0), .ref (ad19 0)]) X ff_X9_64 (Nat.le_of_ble_eq_true rfl) rfl dX9_init_113 ?_
  exact c_ret (ad := fun c => if c = 0 then h0 else (glue (40 + 40 + 2 + 2 + 1 + 23 + 23 + 1 + 3) (glue (40 + 40 + 2 + 2 + 1 + 23 + 23 + 1) (glue (40 + 40 + 2 + 2 + 1 + 23 + 23) (glue (40 + 40 + 2 + 2 + 1 + 23) (glue (40 + 40 + 2 + 2 + 1) (glue (40 + 40 + 2 + 2) (glue (40 + 40 + 2) (glue (40 + 40) (glue (40) ad2 ad4) ad6) ad8) ad10) ad12) ad14) (fun _ => q15)) ad17) ad19) (c - 1)) X hrt hlk (Nat.le_of_ble_eq_true rfl) (Nat.le_of_ble_eq_true rfl) rfl (fun H hP hD => Blk.done (D := D) (cA := cA) (kdX := kdX9) (zX := zC0) (Blk.app (Blk.app (Blk.app (Blk.app (Blk.app (Blk.app (Blk.app (Blk.app (Blk.app (blk_kW (D := D) (cA := cA) (n := 40) (kd := kdX0) (ad := ad2) (z := zz0)) (blk_kW (D := D) (cA := cA) (n := 40) (kd := kdX0) (ad := ad4) (z := zz0)) (by unfold Clo; decide +kernel) (by unfold Clo; decide +kernel)) (blk_kW (D := D) (cA := cA) (n := 2) (kd := kdX5_60) (ad := ad6) (z := zz0)) (Clo.app (by unfold Clo; decide +kernel) (by unfold Clo; decide +kernel)) (by unfold Clo; decide +kernel)) (blk_kW (D := D) (cA := cA) (n := 2) (kd := kdX5_400) (ad := ad8) (z := zz0)) (Clo.app (Clo.app (by unfold Clo; decide +kernel) (by unfold Clo; decide +kernel)) (by unfold Clo; decide +kernel)) (by unfold Clo; decide +kernel)) (blk_kW (D := D) (cA := cA) (n := 1) (kd := kdX4) (ad := ad10) (z := zz0)) (Clo.app (Clo.app (Clo.app (by unfold Clo; decide +kernel) (by unfold Clo; decide +kernel)) (by unfold Clo; decide +kernel)) (by unfold Clo; decide +kernel)) (by unfold Clo; decide +kernel)) (blk_kW (D := D) (cA := cA) (n := 23) (kd := kdX8) (ad := ad12) (z := zz0)) (Clo.app (Clo.app (Clo.app (Clo.app (by unfold Clo; decide +kernel) (by unfold Clo; decide +kernel)) (by unfold Clo; decide +kernel)) (by unfold Clo; decide +kernel)) (by unfold Clo; decide +kernel)) (by unfold Clo; decide +kernel)) (blk_kW (D := D) (cA := cA) (n := 23) (kd := kdX8) (ad := ad14) (z := zz0)) (Clo.app (Clo.app (Clo.app (Clo.app (Clo.app (by unfold Clo; decide +kernel) (by unfold Clo; decide +kernel)) (by unfold Clo; decide +kernel)) (by unfold Clo; decide +kernel)) (by unfold Clo; decide +kernel)) (by unfold Clo; decide +kernel)) (by unfold Clo; decide +kernel)) (Blk.one (t := 0) (u := 0) (q := q15) (f := fun _ => 0) (n := 60) (e := .inl (cA 0, 60, .inl (fun _ => 0))) (by decide) rfl) (Clo.app (Clo.app (Clo.app (Clo.app (Clo.app (Clo.app (by unfold Clo; decide +kernel) (by unfold Clo; decide +kernel)) (by unfold Clo; decide +kernel)) (by unfold Clo; decide +kernel)) (by unfold Clo; decide +kernel)) (by unfold Clo; decide +kernel)) (by unfold Clo; decide +kernel)) (Clo.one (by decide))) (blk_kW (D := D) (cA := cA) (n := 3) (kd := kdX7) (ad := ad17) (z := zz0)) (Clo.app (Clo.app (Clo.app (Clo.app (Clo.app (Clo.app (Clo.app (by unfold Clo; decide +kernel) (by unfold Clo; decide +kernel)) (by unfold Clo; decide +kernel)) (by unfold Clo; decide +kernel)) (by unfold Clo; decide +kernel)) (by unfold Clo; decide +kernel)) (by unfold Clo; decide +kernel)) (Clo.one (by decide))) (by unfold Clo; decide +kernel)) (blk_kW (D := D) (cA := cA) (n := 7) (kd := kdX2) (ad := ad19) (z := zL)) (Clo.app (Clo.app (Clo.app (Clo.app (Clo.app (Clo.app (Clo.app (Clo.app (by unfold Clo; decide +kernel) (by unfold Clo; decide +kernel)) (by unfold Clo; decide +kernel)) (by unfold Clo; decide +kernel)) (by unfold Clo; decide +kernel)) (by unfold Clo; decide +kernel)) (by unfold Clo; decide +kernel)) (Clo.one (by decide))) (by unfold Clo; decide +kernel)) (by unfold Clo; decide +kernel)) (Clo.app (Clo.app (Clo.app (Clo.app (Clo.app (Clo.app (Clo.app (Clo.app (Clo.app (by unfold Clo; decide +kernel) (by unfold Clo; decide +kernel)) (by unfold Clo; decide +kernel)) (by unfold Clo; decide +kernel)) (by unfold Clo; decide +kernel)) (by unfold Clo; decide +kernel)) (by unfold Clo; decide +kernel)) (Clo.one (by decide))) (by unfold Clo; decide +kernel)) (by unfold Clo; decide +kernel)) rfl rfl (by decide +kernel) (zC0_of (glue_z (glue_z (glue_z (glue_z (glue_z (glue_z (glue_z (glue_z (fun _ _ => rfl) (fun _ _ => rfl)) (fun _ _ => rfl)) (fun _ _ => rfl)) (fun _ _ => rfl)) (fun _ _ => rfl)) (fun _ _ => rfl)) (fun _ _ => rfl)) (fun _ _ => rfl))) rfl hP hD) dX9_init_116
