/-! titles -/
def bs (sx : Nat) (s3 s4 s5 : Nat) : List Int := if sx = 1 then kTx s3 else if sx = 2 then kTx s4 else kTx s5
def grT : Nat → List Int
  | 0 => []
  | k + 1 => grT k ++ kTx 2
theorem kTx_l8 : ∀ k, k < 47 → (kTx k).length ≤ 8 := by decide
theorem grT_len : ∀ k, (grT k).length = 5 * k
  | 0 => rfl
  | k + 1 => by rw [grT, List.length_append, grT_len k]; show _ + 5 = _; omega
theorem bs_len {sx s3 s4 s5 : Nat} (h3 : s3 < 47) (h4 : s4 < 47) (h5 : s5 < 47) : (bs sx s3 s4 s5).length ≤ 8 := by
  unfold bs
  split
  · exact kTx_l8 _ h3
  · split
    · exact kTx_l8 _ h4
    · exact kTx_l8 _ h5
def ttB (u d sx : Nat) : List Int := if u = 0 ∧ d = 0 then kTx 1 else if u = 0 then grT (d - 1) ++ bs sx 3 4 5 else if d = 0 then grT (u - 1) ++ bs sx 6 7 8 else if u = 1 ∧ d = 1 then bs sx 9 10 11 else if u = 1 then grT (d - 2) ++ bs sx 12 13 14 else if d = 1 then grT (u - 2) ++ bs sx 15 16 17 else (kTx 18 ++ dig ((min u d : Nat) - 1 : Int)) ++ (if u = d then [] else 47 :: dig (if (u : Int) < d then (d : Int) - u else (u : Int) - d))
def ttl (u d : Nat) (hf : Int) (sx : Nat) : List Int := (if hf = 0 then [] else kTx 0) ++ ttB u d sx
theorem w_putBySex {sx s3 s4 s5 : Nat} {L : List Int} {z : Hp} {K : Hp → Prop} (h : Txt z 83 L) (hs : sx < 4) (h3 : s3 < 47) (h4 : s4 < 47) (h5 : s5 < 47) (hl : L.length + 8 ≤ 400) (k : ∀ z' : Hp, Txt z' 83 (L ++ bs sx s3 s4 s5) → TF 83 z z' → K z') : cal_X6_putBySex 83 sx s3 s4 s5 z K := by
  have l3 := kTx_l8 _ h3
  have l4 := kTx_l8 _ h4
  have l5 := kTx_l8 _ h5
  unfold bs at k
  unfold cal_X6_putBySex
  refine w_if ⟨by omega, by omega⟩ (fun e => ?_) (fun e => w_if ⟨by omega, by omega⟩ (fun e' => ?_) (fun e' => ?_))
  · rw [if_pos (by omega)] at k; exact w_putAll h (by rw [klT83]; omega) (by rw [klT83]; omega) h3 k
  · rw [if_neg (by omega), if_pos (by omega)] at k; exact w_putAll h (by rw [klT83]; omega) (by rw [klT83]; omega) h4 k
  · rw [if_neg (by omega), if_neg (by omega)] at k; exact w_putAll h (by rw [klT83]; omega) (by rw [klT83]; omega) h5 k
theorem w_writesBy {sx s3 s4 s5 : Nat} {L : List Int} {z : Hp} {K : Hp → Prop} (h : TxM z L) (hs : sx < 4) (h3 : s3 < 47) (h4 : s4 < 47) (h5 : s5 < 47) (hl : L.length + 8 ≤ 640) (k : ∀ z' : Hp, TxM z' (L ++ bs sx s3 s4 s5) → MF z z' → K z') : cal_X10_writesBy sx s3 s4 s5 z K := by
  have l3 := kTx_l8 _ h3
  have l4 := kTx_l8 _ h4
  have l5 := kTx_l8 _ h5
  unfold bs at k
  unfold cal_X10_writesBy
  refine w_if ⟨by omega, by omega⟩ (fun e => ?_) (fun e => w_if ⟨by omega, by omega⟩ (fun e' => ?_) (fun e' => ?_))
  · rw [if_pos (by omega)] at k; exact w_writesS h (by omega) k
  · rw [if_neg (by omega), if_pos (by omega)] at k; exact w_writesS h (by omega) k
  · rw [if_neg (by omega), if_neg (by omega)] at k; exact w_writesS h (by omega) k
theorem w_putGrand {n : Nat} {x : Int} {L : List Int} {z : Hp} {K : Hp → Prop} (hx : x = n) (h : Txt z 83 L) (hn : n ≤ 30) (hl : L.length + 5 * n ≤ 400) (k : ∀ z' : Hp, Txt z' 83 (L ++ grT n) → TF 83 z z' → K z') : cal_X6_putGrand 83 x z K := by
  subst hx
  have e2 : (kTx 2).length = 5 := rfl
  show LP1 _ 0 z
  refine LP1_for n (fun j z' => Txt z' 83 (L ++ grT j) ∧ TF 83 z z') 0 rfl (by omega) ⟨by rw [grT, List.append_nil]; exact h, TF.rf⟩ (fun X j z1 hj hI hX => ?_) (fun X z1 hI => ?_)
  · obtain ⟨i1, i2⟩ := hI
    have gl := grT_len j
    refine w_if2 ⟨by omega, by omega⟩ ⟨by omega, by omega⟩ (fun e => absurd e (by omega)) (fun _ => w_if ⟨by omega, by omega⟩ (fun e => absurd e (by omega)) (fun _ => w_putAll i1 (by rw [klT83, List.length_append]; omega) (by rw [klT83]; omega) (by decide) (fun z2 t2 f2 => lt_i (hX z2 ⟨?_, i2.tr f2⟩))))
    rw [grT, ← List.append_assoc]
    exact t2
  · exact w_if2 ⟨by omega, by omega⟩ ⟨by omega, by omega⟩ (fun _ => k z1 hI.1 hI.2) (fun e => absurd e (by omega))
theorem w_grands {n : Nat} {x : Int} {L : List Int} {z : Hp} {K : Hp → Prop} (hx : x = n) (h : TxM z L) (hn : n ≤ 30) (hl : L.length + 5 * n ≤ 640) (k : ∀ z' : Hp, TxM z' (L ++ grT n) → MF z z' → K z') : cal_X10_grands x z K := by
  subst hx
  have e2 : kTx 30 = kTx 2 := rfl
  have e5 : (kTx 2).length = 5 := rfl
  show LP1 _ 0 z
  refine LP1_for n (fun j z' => TxM z' (L ++ grT j) ∧ MF z z') 0 rfl (by omega) ⟨by rw [grT, List.append_nil]; exact h, MF.rf⟩ (fun X j z1 hj hI hX => ?_) (fun X z1 hI => ?_)
  · obtain ⟨i1, i2⟩ := hI
    have gl := grT_len j
    refine w_if2 ⟨by omega, by omega⟩ ⟨by omega, by omega⟩ (fun e => absurd e (by omega)) (fun _ => w_writesS i1 (by rw [e2, List.length_append]; omega) (fun z2 t2 f2 => lt_i (hX z2 ⟨?_, i2.tr f2⟩)))
    rw [grT, ← List.append_assoc, ← e2]
    exact t2
  · exact w_if2 ⟨by omega, by omega⟩ ⟨by omega, by omega⟩ (fun _ => k z1 hI.1 hI.2) (fun e => absurd e (by omega))
theorem cous {u d : Nat} (hu : u < 30) (hd : d < 30) : ((if (d : Int) < u then (d : Int) else u) - 1 = ((min u d : Nat) : Int) - 1) ∧ ((if 0 ≤ (u : Int) - d then (u : Int) - d else 0 - ((u : Int) - d)) = (if (u : Int) < d then (d : Int) - u else (u : Int) - d)) ∧ 0 ≤ (if (u : Int) < d then (d : Int) - u else (u : Int) - d) ∧ (if (u : Int) < d then (d : Int) - u else (u : Int) - d) < 30 := by
  by_cases c : (u : Int) < d
  · rw [if_neg (show ¬ (d : Int) < u by omega), if_neg (show ¬ 0 ≤ (u : Int) - d by omega), if_pos c]; omega
  · rw [if_neg c, if_pos (show 0 ≤ (u : Int) - d by omega)]
    by_cases c' : (d : Int) < u
    · rw [if_pos c']; omega
    · rw [if_neg c']; omega
set_option maxHeartbeats 1000000 in
theorem w_putKin {u d sx : Nat} {hf : Int} {z : Hp} {K : Hp → Prop} (h3 : z 133 3 = u) (h4 : z 133 4 = d) (hu : u < 30) (hd : d < 30) (hh : hf = 0 ∨ hf = 1) (hs : sx < 4) (hT : Txt z 83 []) (k : ∀ z' : Hp, Txt z' 83 (ttl u d hf sx) → (ttl u d hf sx).length ≤ 400 → TF 83 z z' → K z') : cal_X6_putKin 83 133 hf sx z K := by
  unfold cal_X6_putKin
  rw [h3, h4]
  refine lt_i (lt_i ?_)
  refine jn_i (fun J => ∀ z', Txt z' 83 (if hf = 0 then [] else kTx 0) → TF 83 z z' → J z') (fun z1 t1 f1 => ?_) (fun J hJ => w_if (by rcases hh with rfl | rfl <;> constructor <;> decide) (fun e => ?_) (fun e => ?_))
  rotate_left
  · rw [if_pos e] at hJ; exact hJ z hT TF.rf
  · rw [if_neg e] at hJ; exact w_putAll hT (by rw [klT83]; decide) (by rw [klT83]; omega) (by decide) (fun z' a b => hJ z' (by rw [List.nil_append] at a; exact a) b)
  unfold ttl at k
  have lH : (if hf = 0 then ([] : List Int) else kTx 0).length ≤ 8 := by
    split
    · exact Nat.zero_le _
    · exact kTx_l8 0 (by decide)
  generalize (if hf = 0 then ([] : List Int) else kTx 0) = L0 at *
  have ru : rg (u : Int) := ⟨by omega, by omega⟩
  have rd : rg (d : Int) := ⟨by omega, by omega⟩
  refine jn_i (fun J => ¬ (u = 0 ∧ d = 0) → J z1) (fun c00 => ?_) (fun J hJ => w_if ru (fun e => w_if rd (fun e' => ?_) (fun e' => hJ (fun q => e' (by omega)))) (fun e => hJ (fun q => e (by omega))))
  rotate_left
  · unfold ttB at k
    rw [if_pos ⟨by omega, by omega⟩] at k
    have := kTx_l8 1 (by decide)
    exact w_putAll t1 (by rw [klT83]; omega) (by rw [klT83]; omega) (by decide) (fun z' a b => k z' a (by rw [List.length_append]; omega) (f1.tr b))
  have gl := grT_len
  have bl := fun (s3 s4 s5 : Nat) (h3 : s3 < 47) (h4 : s4 < 47) (h5 : s5 < 47) => bs_len (sx := sx) h3 h4 h5
  have go : ∀ (n : Nat) (x : Int) (s3 s4 s5 : Nat), x = n → n ≤ 30 → s3 < 47 → s4 < 47 → s5 < 47 → ttB u d sx = grT n ++ bs sx s3 s4 s5 → cal_X6_putGrand 83 x z1 (fun z17 => cal_X6_putBySex 83 sx s3 s4 s5 z17 (fun z18 => K z18)) := fun n x s3 s4 s5 hx hn q3 q4 q5 he => by
    rw [he] at k
    have b8 := bl s3 s4 s5 q3 q4 q5
    refine w_putGrand hx t1 hn (by omega) (fun z2 t2 f2 => w_putBySex t2 hs q3 q4 q5 (by rw [List.length_append, gl]; omega) (fun z3 t3 f3 => k z3 ?_ ?_ (f1.tr (f2.tr f3))))
    · rw [← List.append_assoc]; exact t3
    · rw [List.length_append, List.length_append, gl]; omega
  refine w_if ru (fun e => ?_) (fun e => w_if rd (fun e' => ?_) (fun e' => ?_))
  · refine go (d - 1) _ 3 4 5 (by omega) (by omega) (by decide) (by decide) (by decide) ?_
    unfold ttB
    rw [if_neg c00, if_pos (by omega)]
  · refine go (u - 1) _ 6 7 8 (by omega) (by omega) (by decide) (by decide) (by decide) ?_
    unfold ttB
    rw [if_neg c00, if_neg (by omega), if_pos (by omega)]
  · refine jn_i (fun J => ¬ (u = 1 ∧ d = 1) → J z1) (fun c11 => ?_) (fun J hJ => w_if ru (fun g => w_if rd (fun g' => ?_) (fun g' => hJ (fun q => g' (by omega)))) (fun g => hJ (fun q => g (by omega))))
    rotate_left
    · have : ttB u d sx = bs sx 9 10 11 := by unfold ttB; rw [if_neg c00, if_neg (by omega), if_neg (by omega), if_pos ⟨by omega, by omega⟩]
      rw [this] at k
      have := bl 9 10 11 (by decide) (by decide) (by decide)
      exact w_putBySex t1 hs (by decide) (by decide) (by decide) (by omega) (fun z' a b => k z' a (by rw [List.length_append]; omega) (f1.tr b))
    refine w_if ru (fun g => ?_) (fun g => w_if rd (fun g' => ?_) (fun g' => ?_))
    · refine go (d - 2) _ 12 13 14 (by omega) (by omega) (by decide) (by decide) (by decide) ?_
      unfold ttB
      rw [if_neg c00, if_neg (by omega), if_neg (by omega), if_neg c11, if_pos (by omega)]
    · refine go (u - 2) _ 15 16 17 (by omega) (by omega) (by decide) (by decide) (by decide) ?_
      unfold ttB
      rw [if_neg c00, if_neg (by omega), if_neg (by omega), if_neg c11, if_neg (by omega), if_pos (by omega)]
    · have et : ttB u d sx = (kTx 18 ++ dig ((min u d : Nat) - 1 : Int)) ++ (if u = d then [] else 47 :: dig (if (u : Int) < d then (d : Int) - u else (u : Int) - d)) := by
        unfold ttB
        rw [if_neg c00, if_neg (by omega), if_neg (by omega), if_neg c11, if_neg (by omega), if_neg (by omega)]
      rw [et] at k
      obtain ⟨q1, q2, q3, q4⟩ := cous hu hd
      have l18 := kTx_l8 18 (by decide)
      unfold cal_X6_putCousin
      rw [q1, q2]
      have dl := (dig_len ((min u d : Nat) - 1 : Int)).1
      refine w_putAll t1 (by rw [klT83]; omega) (by rw [klT83]; omega) (by decide) (fun z2 t2 f2 => ⟨ru, rd, w_putNumber t2 ⟨by omega, by omega⟩ (by rw [klT83, List.length_append]; omega) (by rw [klT83]; omega) (fun z3 t3 f3 => w_if2 ru rd (fun w => ?_) (fun w => ?_))⟩)
      · rw [if_pos (by omega), List.append_nil] at k
        refine k z3 ?_ (by rw [List.length_append, List.length_append]; omega) (f1.tr (f2.tr f3))
        rw [← List.append_assoc]; exact t3
      · rw [if_neg (by omega)] at k
        have dl2 := (dig_len (if (u : Int) < d then (d : Int) - u else (u : Int) - d)).1
        have l3 : (L0 ++ kTx 18 ++ dig ((min u d : Nat) - 1 : Int)).length ≤ 30 := by rw [List.length_append, List.length_append]; omega
        refine w_put t3 (by rw [klT83]; omega) (by rw [klT83]; omega) ⟨by decide, by decide⟩ (fun z4 t4 f4 => ⟨⟨by omega, by omega⟩, w_putNumber t4 ⟨by omega, by omega⟩ (by rw [klT83, List.length_append, List.length_singleton]; omega) (by rw [klT83]; omega) (fun z5 t5 f5 => k z5 ?_ ?_ (f1.tr (f2.tr (f3.tr (f4.tr f5)))))⟩)
        · have : L0 ++ (kTx 18 ++ dig ((min u d : Nat) - 1 : Int) ++ 47 :: dig (if (u : Int) < d then (d : Int) - u else (u : Int) - d)) = L0 ++ kTx 18 ++ dig ((min u d : Nat) - 1 : Int) ++ [47] ++ dig (if (u : Int) < d then (d : Int) - u else (u : Int) - d) := by
            simp only [List.append_assoc, List.singleton_append]
          rw [this]; exact t5
        · rw [List.length_append, List.length_append, List.length_append, List.length_cons]; omega
