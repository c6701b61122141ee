theorem ClsR.cl {z : Hp} {t : Nat} {s : RSt} (h : ClsR z t s) (hw : WhOk s) : (rCl s = 0 ∧ z t 10 = -1) ∨ (rCl s ≠ 0 ∧ 0 ≤ z t 10 ∧ z t 10 < 120) := by
  by_cases c : rCl s = 0
  · exact Or.inl ⟨c, by rw [h.2.1, if_pos c]⟩
  · exact Or.inr ⟨c, by rw [h.2.1, if_neg c]; exact hw c⟩
theorem w_X3_raise {t x k : Nat} {z : Hp} {K : Hp → Prop} {v b ru from_ : Int} {s : RSt} (hx : x < 120) (hv : rg v) (hk : k < 335) (hf : (from_ = -1 ∧ b = -5) ∨ (0 ≤ from_ ∧ from_ < 120 ∧ b = 2 * from_)) (hs : ClsR z t s) (hb : RB s) (hw : WhOk s) (hru : z (t + 8) k = ru) (hr0 : 0 ≤ ru) (kk : ∀ z' : Hp, ClsR z' t (nar ru (2 * x) v b s) → CFr t z z' → K z') : cal_X3_raise t x v k from_ z K := by
  have bx := hb.1 (2 * x)
  have e1 : (2 * (x : Int)) = ((2 * x : Nat) : Int) := by omega
  have rr := (hs.1 (2 * x) (by omega)).1
  unfold cal_X3_raise
  rw [e1, Int.toNat_natCast, rr]
  rcases hs.cl hw with ⟨c, q⟩ | ⟨c, q, q'⟩
  · refine w_if ⟨by omega, by omega⟩ (fun e => absurd e (by omega)) (fun _ => ⟨⟨by omega, by omega⟩, ⟨by omega, by omega⟩, hv, w_ite (fun e => ?_) (fun e => ⟨by rcases hf with ⟨r, _⟩ | ⟨r, r', _⟩ <;> constructor <;> omega, w_ite (fun g => ?_) (fun g => ?_)⟩)⟩)
    · refine kk z ?_ CFr.rf
      unfold nar
      rw [if_neg (fun r => r c), if_pos (Or.inr ⟨by omega, e⟩)]
      exact hs
    · have hb2 : b = 2 * from_ := by rcases hf with ⟨r, _⟩ | ⟨_, _, r⟩ <;> omega
      have eb : 2 * from_ = en b := by unfold en; rw [if_neg (by omega)]; exact hb2.symm
      rw [eb]
      exact w_X3_change (by omega) hv hk hs hb hru hr0 c (fun r => by omega) kk
    · have hb2 : b = -5 := by rcases hf with ⟨_, r⟩ | ⟨r, _⟩ <;> omega
      have eb : (-1 : Int) = en b := by unfold en; rw [if_pos hb2]
      rw [eb]
      exact w_X3_change (by omega) hv hk hs hb hru hr0 c (fun r => by omega) kk
  · exact w_if ⟨by omega, by omega⟩ (fun _ => kk z (by rw [nar_cl c]; exact hs) CFr.rf) (fun e => absurd e (by omega))
theorem w_X3_lower {t x k : Nat} {z : Hp} {K : Hp → Prop} {v b ru from_ : Int} {s : RSt} (hx : x < 120) (hv : rg v) (hk : k < 335) (hf : (from_ = -1 ∧ b = -5) ∨ (0 ≤ from_ ∧ from_ < 120 ∧ b = 2 * from_ + 1)) (hs : ClsR z t s) (hb : RB s) (hw : WhOk s) (hru : z (t + 8) k = ru) (hr0 : 0 ≤ ru) (kk : ∀ z' : Hp, ClsR z' t (nar ru (2 * x + 1) v b s) → CFr t z z' → K z') : cal_X3_lower t x v k from_ z K := by
  have bx := hb.1 (2 * x + 1)
  have e1 : (2 * (x : Int) + 1) = ((2 * x + 1 : Nat) : Int) := by omega
  have rr := (hs.1 (2 * x + 1) (by omega)).1
  unfold cal_X3_lower
  rw [e1, Int.toNat_natCast, rr]
  rcases hs.cl hw with ⟨c, q⟩ | ⟨c, q, q'⟩
  · refine w_if ⟨by omega, by omega⟩ (fun e => absurd e (by omega)) (fun _ => ⟨⟨by omega, by omega⟩, ⟨by omega, by omega⟩, hv, w_ite (fun e => ?_) (fun e => ⟨by rcases hf with ⟨r, _⟩ | ⟨r, r', _⟩ <;> constructor <;> omega, w_ite (fun g => ?_) (fun g => ?_)⟩)⟩)
    · refine kk z ?_ CFr.rf
      unfold nar
      rw [if_neg (fun r => r c), if_pos (Or.inl ⟨by omega, e⟩)]
      exact hs
    · have hb2 : b = 2 * from_ + 1 := by rcases hf with ⟨r, _⟩ | ⟨_, _, r⟩ <;> omega
      have eb : 2 * from_ + 1 = en b := by unfold en; rw [if_neg (by omega)]; exact hb2.symm
      rw [eb]
      exact w_X3_change (by omega) hv hk hs hb hru hr0 c (fun r => by omega) kk
    · have hb2 : b = -5 := by rcases hf with ⟨_, r⟩ | ⟨r, _⟩ <;> omega
      have eb : (-1 : Int) = en b := by unfold en; rw [if_pos hb2]
      rw [eb]
      exact w_X3_change (by omega) hv hk hs hb hru hr0 c (fun r => by omega) kk
  · exact w_if ⟨by omega, by omega⟩ (fun _ => kk z (by rw [nar_cl c]; exact hs) CFr.rf) (fun e => absurd e (by omega))
