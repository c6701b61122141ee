set_option maxHeartbeats 4000000 in
set_option maxRecDepth 100000 in
theorem ct_X3_proveInto {l : Launch} {D : va_G} {cA : Nat → ClassId} {ad sa : Nat → Nat} (hj : kInj NC ad) (t : Nat) (ht : kdC t = (0, 3, 12)) (r1 : Nat) (hr1 : kdC r1 = (0, 5, 2)) (a2 : Int) (z : Hp) (Kp : Hp → Prop) (h : cal_X3_proveInto t r1 a2 z Kp) : kMet l yX3_proveInto cX3_proveInto 5 none 2 NC kdC D cA ad sa [.ref (ad t), .ref (ad r1), kI a2] z (kQv NC kdC D cA ad Kp) := by
  unfold cal_X3_proveInto at h
  refine k_met (cc := cX3_proveInto) (own := RX3) (nL := 5) rfl rfl (Nat.le_of_ble_eq_true rfl) hj kltC (fun p e s m below meth c X hrt hlk => ?_)
  refine k_sub (lv' := [(0, .ref (ad t)), (1, .ref (ad r1)), (2, kI a2)]) [0, 1, 2] rfl ?_
  refine k_aload_n X dX3_proveInto_0 0 rfl ?_
  refine k_iload_n X dX3_proveInto_1 2 rfl ?_
  refine k_iconst X dX3_proveInto_2 ?_
  refine k_afterP (st := []) (fun H locs ls hP hS hl => k_runV (As := [kI a2, kI 0]) X lk_X3_106 rfl yo_X3_follow rfl (kR_ok (by decide) (by decide)) (ct_X3_follow (kCx_j X) t ht _ _ _ _ h) ht rfl (Nat.le_of_ble_eq_true rfl) dX3_proveInto_3 hP hS hl) (fun v1 h => ?_)
  refine k_istore_n X dX3_proveInto_6 h (fun v2 => [(3, kI v2), (0, .ref (ad t)), (1, .ref (ad r1)), (2, kI a2)]) (by decide) (fun _ => rfl) (fun v2 h => ?_)
  refine k_iconst X dX3_proveInto_7 ?_
  refine k_istore X dX3_proveInto_8 h (fun v3 => [(4, kI v3), (3, kI v2), (0, .ref (ad t)), (1, .ref (ad r1)), (2, kI a2)]) (by decide) (fun _ => rfl) (fun v3 h => ?_)
  refine k_sub (lv' := [(0, .ref (ad t)), (1, .ref (ad r1)), (3, kI v2), (4, kI v3)]) [2, 3, 1, 0] rfl ?_
  refine h (fun v5 v6 z7 => kAt p l e (kR 2) s m ([.ref (ad t), .ref (ad r1), kI a2] : List Value).toArray below meth c (MQ below (kQv NC kdC D cA ad Kp) ([.ref (ad t), .ref (ad r1), kI a2] : List Value).toArray s 0 0 (kA NC ad)) 5 NC kdC D cA ad 10 [(0, .ref (ad t)), (1, .ref (ad r1)), (3, kI v5), (4, kI v6)] [] z7) (fun v5 v6 z7 h => ?_)
  refine k_iload X dX3_proveInto_10 3 rfl ?_
  refine k_bipush X dX3_proveInto_12 (by decide +kernel) ?_
  refine k_icmp_ge (tgt := 88) X dX3_proveInto_14 (by decide) ⟨h.1, ⟨by decide, by decide⟩, h.2⟩ (fun h => ?_) (fun h => ?_)
  · exact k_vret X hrt hlk dX3_proveInto_88 h
  · refine k_iload_n X dX3_proveInto_17 2 rfl ?_
    refine k_if_lt (tgt := 88) X dX3_proveInto_18 (by decide) h (fun h => ?_) (fun h => ?_)
    · exact k_vret X hrt hlk dX3_proveInto_88 h
    · refine k_iload X dX3_proveInto_21 3 rfl ?_
      refine jn_use (fun J8 => ∀ (z9 : Hp), J8 z9 → kAt p l e (kR 2) s m ([.ref (ad t), .ref (ad r1), kI a2] : List Value).toArray below meth c (MQ below (kQv NC kdC D cA ad Kp) ([.ref (ad t), .ref (ad r1), kI a2] : List Value).toArray s 0 0 (kA NC ad)) 5 NC kdC D cA ad 32 [(0, .ref (ad t)), (1, .ref (ad r1)), (3, kI v5), (4, kI v6)] [] z9) h ?_ (fun J8 hJ8 h => ?_)
      · intro z9 h
        refine k_aload_n X dX3_proveInto_32 0 rfl ?_
        refine k_getR (t := t + 2) X fk_X3_15 ht (by decide) rfl dX3_proveInto_33 ?_
        refine k_iload_n X dX3_proveInto_36 2 rfl ?_
        refine k_iald X (kc_3_1 ht) (Nat.le_of_ble_eq_true rfl) dX3_proveInto_37 h (fun h => ?_)
        refine k_bipush X dX3_proveInto_38 (by decide +kernel) ?_
        refine jn_use (fun J10 => ∀ (z11 : Hp), J10 z11 → kAt p l e (kR 2) s m ([.ref (ad t), .ref (ad r1), kI a2] : List Value).toArray below meth c (MQ below (kQv NC kdC D cA ad Kp) ([.ref (ad t), .ref (ad r1), kI a2] : List Value).toArray s 0 0 (kA NC ad)) 5 NC kdC D cA ad 75 [(0, .ref (ad t)), (1, .ref (ad r1)), (3, kI v5), (4, kI v6)] [] z11) h ?_ (fun J10 hJ10 h => ?_)
        · intro z11 h
          refine k_aload_n X dX3_proveInto_75 0 rfl ?_
          refine k_iload_n X dX3_proveInto_76 2 rfl ?_
          refine k_iconst X dX3_proveInto_77 ?_
          refine k_afterP (st := []) (fun H locs ls hP hS hl => k_runV (As := [kI v5, kI 1]) X lk_X3_106 rfl yo_X3_follow rfl (kR_ok (by decide) (by decide)) (ct_X3_follow (kCx_j X) t ht _ _ _ _ h) ht rfl (Nat.le_of_ble_eq_true rfl) dX3_proveInto_78 hP hS hl) (fun v12 h => ?_)
          refine k_istore_n X dX3_proveInto_81 h (fun v13 => [(3, kI v13), (0, .ref (ad t)), (1, .ref (ad r1)), (4, kI v6)]) (by decide) (fun _ => rfl) (fun v13 h => ?_)
          refine k_iinc X dX3_proveInto_82 3 rfl h (fun v14 => [(4, kI v14), (3, kI v13), (0, .ref (ad t)), (1, .ref (ad r1))]) (by decide) (fun _ => rfl) (fun v14 h => ?_)
          refine k_goto (tgt := 10) X dX3_proveInto_85 (by decide) ?_
          exact k_sub [2, 3, 1, 0] rfl h
        · refine k_icmp_lt (tgt := 65) X dX3_proveInto_40 (by decide) ⟨h.1, ⟨by decide, by decide⟩, h.2⟩ (fun h => ?_) (fun h => ?_)
          · refine k_aload_n X dX3_proveInto_65 1 rfl ?_
            refine k_aload_n X dX3_proveInto_66 0 rfl ?_
            refine k_getR (t := t + 2) X fk_X3_15 ht (by decide) rfl dX3_proveInto_67 ?_
            refine k_iload_n X dX3_proveInto_70 2 rfl ?_
            refine k_iald X (kc_3_1 ht) (Nat.le_of_ble_eq_true rfl) dX3_proveInto_71 h (fun h => ?_)
            refine k_afterV (st := []) (fun H locs ls hP hS hl => k_runV (As := [kI (z9 (t + 2) v5.toNat)]) X lk_X3_118 rfl yo_X5_putNumber rfl (kR_ok (by decide) (by decide)) (ct_X5_putNumber (kCx_j X) r1 hr1 _ _ _ h) hr1 rfl (Nat.le_of_ble_eq_true rfl) dX3_proveInto_72 hP hS hl) (fun z15 h => ?_)
            exact k_sub [0, 1, 2, 3] rfl (hJ10 _ h)
          · refine k_aload_n X dX3_proveInto_43 1 rfl ?_
            refine k_bipush X dX3_proveInto_44 (by decide +kernel) ?_
            refine k_afterV (st := []) (fun H locs ls hP hS hl => k_runV (As := [kI 76]) X lk_X3_113 rfl yo_X5_put rfl (kR_ok (by decide) (by decide)) (ct_X5_put (kCx_j X) r1 hr1 _ _ _ h) hr1 rfl (Nat.le_of_ble_eq_true rfl) dX3_proveInto_46 hP hS hl) (fun z16 h => ?_)
            refine k_aload_n X dX3_proveInto_49 1 rfl ?_
            refine k_aload_n X dX3_proveInto_50 0 rfl ?_
            refine k_getR (t := t + 2) X fk_X3_15 ht (by decide) rfl dX3_proveInto_51 ?_
            refine k_iload_n X dX3_proveInto_54 2 rfl ?_
            refine k_iald X (kc_3_1 ht) (Nat.le_of_ble_eq_true rfl) dX3_proveInto_55 h (fun h => ?_)
            refine k_bipush X dX3_proveInto_56 (by decide +kernel) ?_
            refine k_isub X dX3_proveInto_58 ?_
            refine k_afterV (st := []) (fun H locs ls hP hS hl => k_runV (As := [kI ((z16 (t + 2) v5.toNat) - 100)]) X lk_X3_118 rfl yo_X5_putNumber rfl (kR_ok (by decide) (by decide)) (ct_X5_putNumber (kCx_j X) r1 hr1 _ _ _ h) hr1 rfl (Nat.le_of_ble_eq_true rfl) dX3_proveInto_59 hP hS hl) (fun z17 h => ?_)
            refine k_goto (tgt := 75) X dX3_proveInto_62 (by decide) ?_
            exact k_sub [0, 1, 2, 3] rfl (hJ10 _ h)
      · refine k_if_le (tgt := 32) X dX3_proveInto_23 (by decide) h (fun h => ?_) (fun h => ?_)
        · exact k_sub [0, 1, 2, 3] rfl (hJ8 _ h)
        · refine k_aload_n X dX3_proveInto_26 1 rfl ?_
          refine k_bipush X dX3_proveInto_27 (by decide +kernel) ?_
          refine k_afterV (st := []) (fun H locs ls hP hS hl => k_runV (As := [kI 60]) X lk_X3_113 rfl yo_X5_put rfl (kR_ok (by decide) (by decide)) (ct_X5_put (kCx_j X) r1 hr1 _ _ _ h) hr1 rfl (Nat.le_of_ble_eq_true rfl) dX3_proveInto_29 hP hS hl) (fun z18 h => ?_)
          exact k_sub [0, 1, 2, 3] rfl (hJ8 _ h)
set_option maxHeartbeats 4000000 in
set_option maxRecDepth 100000 in
theorem ct_X3_takeLife {l : Launch} {D : va_G} {cA : Nat → ClassId} {ad sa : Nat → Nat} (hj : kInj NC ad) (t : Nat) (ht : kdC t = (0, 3, 12)) (a1 : Int) (z : Hp) (Kp : Hp → Prop) (h : cal_X3_takeLife t a1 z Kp) : kMet l yX3_takeLife cX3_takeLife 2 none 1 NC kdC D cA ad sa [.ref (ad t), kI a1] z (kQv NC kdC D cA ad Kp) := by
  unfold cal_X3_takeLife at h
  refine k_met (cc := cX3_takeLife) (own := RX3) (nL := 2) rfl rfl (Nat.le_of_ble_eq_true rfl) hj kltC (fun p e s m below meth c X hrt hlk => ?_)
  refine k_sub (lv' := [(0, .ref (ad t)), (1, kI a1)]) [0, 1] rfl ?_
  refine k_aload_n X dX3_takeLife_0 0 rfl ?_
  refine k_iload_n X dX3_takeLife_1 1 rfl ?_
  refine k_afterP (st := [.ref (ad t)]) (fun H locs ls hP hS hl => k_runS (As := [kI a1]) X lk_X3_46 yo_X3_died rfl (kR_ok (by decide) (by decide)) (ct_X3_died (kCx_j X) _ _ _ h) (Nat.le_of_ble_eq_true rfl) dX3_takeLife_2 hP hS hl) (fun v1 h => ?_)
  refine k_iload_n X dX3_takeLife_5 1 rfl ?_
  refine k_afterP (st := [kI v1, .ref (ad t)]) (fun H locs ls hP hS hl => k_runS (As := [kI a1]) X lk_X3_50 yo_X3_born rfl (kR_ok (by decide) (by decide)) (ct_X3_born (kCx_j X) _ _ _ h) (Nat.le_of_ble_eq_true rfl) dX3_takeLife_6 hP hS hl) (fun v2 h => ?_)
  refine k_iconst X dX3_takeLife_9 ?_
  refine k_bipush X dX3_takeLife_10 (by decide +kernel) ?_
  refine k_bipush X dX3_takeLife_12 (by decide +kernel) ?_
  refine k_iload_n X dX3_takeLife_14 1 rfl ?_
  refine k_iadd X dX3_takeLife_15 ?_
  refine k_afterV (st := []) (fun H locs ls hP hS hl => k_runV (As := [kI v1, kI v2, kI 0, kI 110, kI (100 + a1)]) X lk_X3_53 rfl yo_X3_addLess rfl (kR_ok (by decide) (by decide)) (ct_X3_addLess (kCx_j X) t ht _ _ _ _ _ _ _ h) ht rfl (Nat.le_of_ble_eq_true rfl) dX3_takeLife_16 hP hS hl) (fun z3 h => ?_)
  exact k_vret X hrt hlk dX3_takeLife_19 h
set_option maxHeartbeats 4000000 in
set_option maxRecDepth 100000 in
theorem ct_X3_takeStatement {l : Launch} {D : va_G} {cA : Nat → ClassId} {ad sa : Nat → Nat} (hj : kInj NC ad) (t : Nat) (ht : kdC t = (0, 3, 12)) (r1 : Nat) (hr1 : kdC r1 = (0, 0, 11)) (r2 : Nat) (hr2 : kdC r2 = (0, 1, 13)) (a3 : Int) (z : Hp) (Kp : Hp → Prop) (h : cal_X3_takeStatement t r1 r2 a3 z Kp) : kMet l yX3_takeStatement cX3_takeStatement 7 none 2 NC kdC D cA ad sa [.ref (ad t), .ref (ad r1), .ref (ad r2), kI a3] z (kQv NC kdC D cA ad Kp) := by
  unfold cal_X3_takeStatement at h
  refine k_met (cc := cX3_takeStatement) (own := RX3) (nL := 7) rfl rfl (Nat.le_of_ble_eq_true rfl) hj kltC (fun p e s m below meth c X hrt hlk => ?_)
  refine k_sub (lv' := [(0, .ref (ad t)), (1, .ref (ad r1)), (2, .ref (ad r2)), (3, kI a3)]) [0, 1, 2, 3] rfl ?_
  refine k_aload_n X dX3_takeStatement_0 2 rfl ?_
  refine k_getR (t := r2 + 1) X fk_X3_57 hr2 (by decide) rfl dX3_takeStatement_1 ?_
  refine k_aload_n X dX3_takeStatement_4 1 rfl ?_
  refine k_getR (t := r1 + 35) X fk_X3_62 hr1 (by decide) rfl dX3_takeStatement_5 ?_
  refine k_iload_n X dX3_takeStatement_8 3 rfl ?_
  refine k_iald X (kc_0_6 hr1) (Nat.le_of_ble_eq_true rfl) dX3_takeStatement_9 h (fun h => ?_)
  refine k_iald X (kc_1_2 hr2) (Nat.le_of_ble_eq_true rfl) dX3_takeStatement_10 h (fun h => ?_)
  refine k_istore X dX3_takeStatement_11 h (fun v1 => [(4, kI v1), (0, .ref (ad t)), (1, .ref (ad r1)), (2, .ref (ad r2)), (3, kI a3)]) (by decide) (fun _ => rfl) (fun v1 h => ?_)
  refine k_aload_n X dX3_takeStatement_13 2 rfl ?_
  refine k_getR (t := r1 + 36) X fk_X3_67 hr1 (by decide) rfl dX3_takeStatement_14 ?_
  refine k_iload_n X dX3_takeStatement_17 4 rfl ?_
  refine k_iald X (kc_0_7 hr1) (Nat.le_of_ble_eq_true rfl) dX3_takeStatement_18 h (fun h => ?_)
  refine jn_use (fun J3 => ∀ (v2 : Int), J3 v2 → kAt p l e (kR 2) s m ([.ref (ad t), .ref (ad r1), .ref (ad r2), kI a3] : List Value).toArray below meth c (MQ below (kQv NC kdC D cA ad Kp) ([.ref (ad t), .ref (ad r1), .ref (ad r2), kI a3] : List Value).toArray s 0 0 (kA NC ad)) 7 NC kdC D cA ad 40 [(0, .ref (ad t)), (1, .ref (ad r1)), (3, kI a3), (4, kI v1), (5, kI v2)] [] z) h ?_ (fun J3 hJ3 h => ?_)
  · intro v2 h
    refine k_aload_n X dX3_takeStatement_40 1 rfl ?_
    refine k_getR (t := r1 + 37) X fk_X3_70 hr1 (by decide) rfl dX3_takeStatement_41 ?_
    refine k_iload_n X dX3_takeStatement_44 2 rfl ?_
    refine k_iald X (kc_0_8 hr1) (Nat.le_of_ble_eq_true rfl) dX3_takeStatement_45 h (fun h => ?_)
    refine k_istore X dX3_takeStatement_46 h (fun v4 => [(6, kI v4), (0, .ref (ad t)), (1, .ref (ad r1)), (3, kI a3), (4, kI v1), (5, kI v2)]) (by decide) (fun _ => rfl) (fun v4 h => ?_)
    refine k_aload_n X dX3_takeStatement_48 2 rfl ?_
    refine k_getR (t := r1 + 34) X fk_X3_73 hr1 (by decide) rfl dX3_takeStatement_49 ?_
    refine k_iload_n X dX3_takeStatement_52 3 rfl ?_
    refine k_iald X (kc_0_5 hr1) (Nat.le_of_ble_eq_true rfl) dX3_takeStatement_53 h (fun h => ?_)
    obtain ⟨hr31, h⟩ := h
    by_cases q32 : (z (r1 + 34) a3.toNat) = 0
    · rw [if_pos q32] at h
      refine k_swin (tgt := 100) X dX3_takeStatement_54 hr31 q32 (by decide) (by decide) rfl (by decide) ?_
      refine k_aload_n X dX3_takeStatement_100 1 rfl ?_
      refine k_iload X dX3_takeStatement_101 4 rfl ?_
      refine k_afterP (st := [.ref (ad t)]) (fun H locs ls hP hS hl => k_runS (As := [kI v1]) X lk_X3_50 yo_X3_born rfl (kR_ok (by decide) (by decide)) (ct_X3_born (kCx_j X) _ _ _ h) (Nat.le_of_ble_eq_true rfl) dX3_takeStatement_103 hP hS hl) (fun v5 h => ?_)
      refine k_iload X dX3_takeStatement_106 0 rfl ?_
      refine k_aload_n X dX3_takeStatement_108 2 rfl ?_
      refine k_getR (t := r1 + 38) X fk_X3_76 hr1 (by decide) rfl dX3_takeStatement_109 ?_
      refine k_iload_n X dX3_takeStatement_112 3 rfl ?_
      refine k_iald X (kc_0_9 hr1) (Nat.le_of_ble_eq_true rfl) dX3_takeStatement_113 h (fun h => ?_)
      refine k_iload_n X dX3_takeStatement_114 3 rfl ?_
      refine k_afterV (st := []) (fun H locs ls hP hS hl => k_runV (As := [kI v5, kI v4, kI (z (r1 + 38) a3.toNat), kI a3]) X lk_X3_79 rfl yo_X3_addIn rfl (kR_ok (by decide) (by decide)) (ct_X3_addIn (kCx_j X) t ht _ _ _ _ _ _ h) ht rfl (Nat.le_of_ble_eq_true rfl) dX3_takeStatement_115 hP hS hl) (fun z6 h => ?_)
      refine k_goto (tgt := 309) X dX3_takeStatement_118 (by decide) ?_
      exact k_vret X hrt hlk dX3_takeStatement_309 h
    rw [if_neg q32] at h
    by_cases q33 : (z (r1 + 34) a3.toNat) = 1
    · rw [if_pos q33] at h
      refine k_swin (tgt := 121) X dX3_takeStatement_54 hr31 q33 (by decide) (by decide) rfl (by decide) ?_
      refine k_aload_n X dX3_takeStatement_121 1 rfl ?_
      refine k_iload X dX3_takeStatement_122 4 rfl ?_
      refine k_afterP (st := [.ref (ad t)]) (fun H locs ls hP hS hl => k_runS (As := [kI v1]) X lk_X3_46 yo_X3_died rfl (kR_ok (by decide) (by decide)) (ct_X3_died (kCx_j X) _ _ _ h) (Nat.le_of_ble_eq_true rfl) dX3_takeStatement_124 hP hS hl) (fun v7 h => ?_)
      refine k_iload X dX3_takeStatement_127 0 rfl ?_
      refine k_aload_n X dX3_takeStatement_129 2 rfl ?_
      refine k_getR (t := r1 + 38) X fk_X3_76 hr1 (by decide) rfl dX3_takeStatement_130 ?_
      refine k_iload_n X dX3_takeStatement_133 3 rfl ?_
      refine k_iald X (kc_0_9 hr1) (Nat.le_of_ble_eq_true rfl) dX3_takeStatement_134 h (fun h => ?_)
      refine k_iload_n X dX3_takeStatement_135 3 rfl ?_
      refine k_afterV (st := []) (fun H locs ls hP hS hl => k_runV (As := [kI v7, kI v4, kI (z (r1 + 38) a3.toNat), kI a3]) X lk_X3_79 rfl yo_X3_addIn rfl (kR_ok (by decide) (by decide)) (ct_X3_addIn (kCx_j X) t ht _ _ _ _ _ _ h) ht rfl (Nat.le_of_ble_eq_true rfl) dX3_takeStatement_136 hP hS hl) (fun z8 h => ?_)
      refine k_goto (tgt := 309) X dX3_takeStatement_139 (by decide) ?_
      exact k_vret X hrt hlk dX3_takeStatement_309 h
    rw [if_neg q33] at h
    by_cases q34 : (z (r1 + 34) a3.toNat) = 2
    · rw [if_pos q34] at h
      refine k_swin (tgt := 142) X dX3_takeStatement_54 hr31 q34 (by decide) (by decide) rfl (by decide) ?_
      refine k_aload_n X dX3_takeStatement_142 1 rfl ?_
      refine k_iload X dX3_takeStatement_143 4 rfl ?_
      refine k_afterP (st := [.ref (ad t)]) (fun H locs ls hP hS hl => k_runS (As := [kI v1]) X lk_X3_50 yo_X3_born rfl (kR_ok (by decide) (by decide)) (ct_X3_born (kCx_j X) _ _ _ h) (Nat.le_of_ble_eq_true rfl) dX3_takeStatement_145 hP hS hl) (fun v9 h => ?_)
      refine k_iload X dX3_takeStatement_148 5 rfl ?_
      refine k_afterP (st := [kI v9, .ref (ad t)]) (fun H locs ls hP hS hl => k_runS (As := [kI v2]) X lk_X3_50 yo_X3_born rfl (kR_ok (by decide) (by decide)) (ct_X3_born (kCx_j X) _ _ _ h) (Nat.le_of_ble_eq_true rfl) dX3_takeStatement_150 hP hS hl) (fun v10 h => ?_)
      refine k_bipush X dX3_takeStatement_153 (by decide +kernel) ?_
      refine k_bipush X dX3_takeStatement_155 (by decide +kernel) ?_
      refine k_iload_n X dX3_takeStatement_157 3 rfl ?_
      refine k_afterV (st := []) (fun H locs ls hP hS hl => k_runV (As := [kI v9, kI v10, kI 12, kI 55, kI a3]) X lk_X3_53 rfl yo_X3_addLess rfl (kR_ok (by decide) (by decide)) (ct_X3_addLess (kCx_j X) t ht _ _ _ _ _ _ _ h) ht rfl (Nat.le_of_ble_eq_true rfl) dX3_takeStatement_158 hP hS hl) (fun z11 h => ?_)
      refine k_aload_n X dX3_takeStatement_161 1 rfl ?_
      refine k_iload X dX3_takeStatement_162 5 rfl ?_
      refine k_afterP (st := [.ref (ad t)]) (fun H locs ls hP hS hl => k_runS (As := [kI v2]) X lk_X3_46 yo_X3_died rfl (kR_ok (by decide) (by decide)) (ct_X3_died (kCx_j X) _ _ _ h) (Nat.le_of_ble_eq_true rfl) dX3_takeStatement_164 hP hS hl) (fun v12 h => ?_)
      refine k_iload X dX3_takeStatement_167 4 rfl ?_
      refine k_afterP (st := [kI v12, .ref (ad t)]) (fun H locs ls hP hS hl => k_runS (As := [kI v1]) X lk_X3_50 yo_X3_born rfl (kR_ok (by decide) (by decide)) (ct_X3_born (kCx_j X) _ _ _ h) (Nat.le_of_ble_eq_true rfl) dX3_takeStatement_169 hP hS hl) (fun v13 h => ?_)
      refine k_iconst X dX3_takeStatement_172 ?_
      refine k_ldc X 100000 mw520 dX3_takeStatement_173 ?_
      refine k_iload_n X dX3_takeStatement_175 3 rfl ?_
      refine k_afterV (st := []) (fun H locs ls hP hS hl => k_runV (As := [kI v12, kI v13, kI 0, kI 100000, kI a3]) X lk_X3_53 rfl yo_X3_addLess rfl (kR_ok (by decide) (by decide)) (ct_X3_addLess (kCx_j X) t ht _ _ _ _ _ _ _ h) ht rfl (Nat.le_of_ble_eq_true rfl) dX3_takeStatement_176 hP hS hl) (fun z14 h => ?_)
      refine k_goto (tgt := 309) X dX3_takeStatement_179 (by decide) ?_
      exact k_vret X hrt hlk dX3_takeStatement_309 h
    rw [if_neg q34] at h
    by_cases q35 : (z (r1 + 34) a3.toNat) = 3
    · rw [if_pos q35] at h
      refine k_swin (tgt := 182) X dX3_takeStatement_54 hr31 q35 (by decide) (by decide) rfl (by decide) ?_
      refine k_aload_n X dX3_takeStatement_182 1 rfl ?_
      refine k_iload X dX3_takeStatement_183 4 rfl ?_
      refine k_afterP (st := [.ref (ad t)]) (fun H locs ls hP hS hl => k_runS (As := [kI v1]) X lk_X3_50 yo_X3_born rfl (kR_ok (by decide) (by decide)) (ct_X3_born (kCx_j X) _ _ _ h) (Nat.le_of_ble_eq_true rfl) dX3_takeStatement_185 hP hS hl) (fun v15 h => ?_)
      refine k_iload X dX3_takeStatement_188 5 rfl ?_
      refine k_afterP (st := [kI v15, .ref (ad t)]) (fun H locs ls hP hS hl => k_runS (As := [kI v2]) X lk_X3_50 yo_X3_born rfl (kR_ok (by decide) (by decide)) (ct_X3_born (kCx_j X) _ _ _ h) (Nat.le_of_ble_eq_true rfl) dX3_takeStatement_190 hP hS hl) (fun v16 h => ?_)
      refine k_bipush X dX3_takeStatement_193 (by decide +kernel) ?_
      refine k_bipush X dX3_takeStatement_195 (by decide +kernel) ?_
      refine k_iload_n X dX3_takeStatement_197 3 rfl ?_
      refine k_afterV (st := []) (fun H locs ls hP hS hl => k_runV (As := [kI v15, kI v16, kI 14, kI 80, kI a3]) X lk_X3_53 rfl yo_X3_addLess rfl (kR_ok (by decide) (by decide)) (ct_X3_addLess (kCx_j X) t ht _ _ _ _ _ _ _ h) ht rfl (Nat.le_of_ble_eq_true rfl) dX3_takeStatement_198 hP hS hl) (fun z17 h => ?_)
      refine k_aload_n X dX3_takeStatement_201 1 rfl ?_
      refine k_iload X dX3_takeStatement_202 5 rfl ?_
      refine k_afterP (st := [.ref (ad t)]) (fun H locs ls hP hS hl => k_runS (As := [kI v2]) X lk_X3_46 yo_X3_died rfl (kR_ok (by decide) (by decide)) (ct_X3_died (kCx_j X) _ _ _ h) (Nat.le_of_ble_eq_true rfl) dX3_takeStatement_204 hP hS hl) (fun v18 h => ?_)
      refine k_iload X dX3_takeStatement_207 4 rfl ?_
      refine k_afterP (st := [kI v18, .ref (ad t)]) (fun H locs ls hP hS hl => k_runS (As := [kI v1]) X lk_X3_50 yo_X3_born rfl (kR_ok (by decide) (by decide)) (ct_X3_born (kCx_j X) _ _ _ h) (Nat.le_of_ble_eq_true rfl) dX3_takeStatement_209 hP hS hl) (fun v19 h => ?_)
      refine k_iconst X dX3_takeStatement_212 ?_
      refine k_ldc X 100000 mw520 dX3_takeStatement_213 ?_
      refine k_iload_n X dX3_takeStatement_215 3 rfl ?_
      refine k_afterV (st := []) (fun H locs ls hP hS hl => k_runV (As := [kI v18, kI v19, kI (-1), kI 100000, kI a3]) X lk_X3_53 rfl yo_X3_addLess rfl (kR_ok (by decide) (by decide)) (ct_X3_addLess (kCx_j X) t ht _ _ _ _ _ _ _ h) ht rfl (Nat.le_of_ble_eq_true rfl) dX3_takeStatement_216 hP hS hl) (fun z20 h => ?_)
      refine k_goto (tgt := 309) X dX3_takeStatement_219 (by decide) ?_
      exact k_vret X hrt hlk dX3_takeStatement_309 h
    rw [if_neg q35] at h
    by_cases q36 : (z (r1 + 34) a3.toNat) = 4
    · rw [if_pos q36] at h
      refine k_swin (tgt := 222) X dX3_takeStatement_54 hr31 q36 (by decide) (by decide) rfl (by decide) ?_
      refine k_aload_n X dX3_takeStatement_222 1 rfl ?_
      refine k_bipush X dX3_takeStatement_223 (by decide +kernel) ?_
      refine k_iload_n X dX3_takeStatement_225 3 rfl ?_
      refine k_iadd X dX3_takeStatement_226 ?_
      refine k_iload X dX3_takeStatement_227 0 rfl ?_
      refine k_aload_n X dX3_takeStatement_229 2 rfl ?_
      refine k_getR (t := r1 + 38) X fk_X3_76 hr1 (by decide) rfl dX3_takeStatement_230 ?_
      refine k_iload_n X dX3_takeStatement_233 3 rfl ?_
      refine k_iald X (kc_0_9 hr1) (Nat.le_of_ble_eq_true rfl) dX3_takeStatement_234 h (fun h => ?_)
      refine k_iload_n X dX3_takeStatement_235 3 rfl ?_
      refine k_afterV (st := []) (fun H locs ls hP hS hl => k_runV (As := [kI (60 + a3), kI v4, kI (z (r1 + 38) a3.toNat), kI a3]) X lk_X3_79 rfl yo_X3_addIn rfl (kR_ok (by decide) (by decide)) (ct_X3_addIn (kCx_j X) t ht _ _ _ _ _ _ h) ht rfl (Nat.le_of_ble_eq_true rfl) dX3_takeStatement_236 hP hS hl) (fun z21 h => ?_)
      refine k_aload_n X dX3_takeStatement_239 1 rfl ?_
      refine k_iload X dX3_takeStatement_240 4 rfl ?_
      refine k_iload_n X dX3_takeStatement_242 3 rfl ?_
      refine k_afterV (st := []) (fun H locs ls hP hS hl => k_runV (As := [kI v1, kI a3]) X lk_X3_84 rfl yo_X3_addMarriedOne rfl (kR_ok (by decide) (by decide)) (ct_X3_addMarriedOne (kCx_j X) t ht _ _ _ _ h) ht rfl (Nat.le_of_ble_eq_true rfl) dX3_takeStatement_243 hP hS hl) (fun z22 h => ?_)
      refine k_aload_n X dX3_takeStatement_246 1 rfl ?_
      refine k_iload X dX3_takeStatement_247 5 rfl ?_
      refine k_iload_n X dX3_takeStatement_249 3 rfl ?_
      refine k_afterV (st := []) (fun H locs ls hP hS hl => k_runV (As := [kI v2, kI a3]) X lk_X3_84 rfl yo_X3_addMarriedOne rfl (kR_ok (by decide) (by decide)) (ct_X3_addMarriedOne (kCx_j X) t ht _ _ _ _ h) ht rfl (Nat.le_of_ble_eq_true rfl) dX3_takeStatement_250 hP hS hl) (fun z23 h => ?_)
      refine k_goto (tgt := 309) X dX3_takeStatement_253 (by decide) ?_
      exact k_vret X hrt hlk dX3_takeStatement_309 h
    rw [if_neg q36] at h
    by_cases q37 : (z (r1 + 34) a3.toNat) = 5
    · rw [if_pos q37] at h
      refine k_swin (tgt := 309) X dX3_takeStatement_54 hr31 q37 (by decide) (by decide) rfl (by decide) ?_
      exact k_vret X hrt hlk dX3_takeStatement_309 h
    rw [if_neg q37] at h
    by_cases q38 : (z (r1 + 34) a3.toNat) = 6
    · rw [if_pos q38] at h
      refine k_swin (tgt := 256) X dX3_takeStatement_54 hr31 q38 (by decide) (by decide) rfl (by decide) ?_
      refine k_aload_n X dX3_takeStatement_256 1 rfl ?_
      refine k_iload X dX3_takeStatement_257 4 rfl ?_
      refine k_afterP (st := [.ref (ad t)]) (fun H locs ls hP hS hl => k_runS (As := [kI v1]) X lk_X3_50 yo_X3_born rfl (kR_ok (by decide) (by decide)) (ct_X3_born (kCx_j X) _ _ _ h) (Nat.le_of_ble_eq_true rfl) dX3_takeStatement_259 hP hS hl) (fun v24 h => ?_)
      refine k_ldc X (-100000) mw524 dX3_takeStatement_262 ?_
      refine k_iload X dX3_takeStatement_264 0 rfl ?_
      refine k_iload_n X dX3_takeStatement_266 3 rfl ?_
      refine k_afterV (st := []) (fun H locs ls hP hS hl => k_runV (As := [kI v24, kI (-100000), kI v4, kI a3]) X lk_X3_79 rfl yo_X3_addIn rfl (kR_ok (by decide) (by decide)) (ct_X3_addIn (kCx_j X) t ht _ _ _ _ _ _ h) ht rfl (Nat.le_of_ble_eq_true rfl) dX3_takeStatement_267 hP hS hl) (fun z25 h => ?_)
      refine k_aload_n X dX3_takeStatement_270 1 rfl ?_
      refine k_iload X dX3_takeStatement_271 4 rfl ?_
      refine k_afterP (st := [.ref (ad t)]) (fun H locs ls hP hS hl => k_runS (As := [kI v1]) X lk_X3_46 yo_X3_died rfl (kR_ok (by decide) (by decide)) (ct_X3_died (kCx_j X) _ _ _ h) (Nat.le_of_ble_eq_true rfl) dX3_takeStatement_273 hP hS hl) (fun v26 h => ?_)
      refine k_iload X dX3_takeStatement_276 0 rfl ?_
      refine k_ldc X 100000 mw520 dX3_takeStatement_278 ?_
      refine k_iload_n X dX3_takeStatement_280 3 rfl ?_
      refine k_afterV (st := []) (fun H locs ls hP hS hl => k_runV (As := [kI v26, kI v4, kI 100000, kI a3]) X lk_X3_79 rfl yo_X3_addIn rfl (kR_ok (by decide) (by decide)) (ct_X3_addIn (kCx_j X) t ht _ _ _ _ _ _ h) ht rfl (Nat.le_of_ble_eq_true rfl) dX3_takeStatement_281 hP hS hl) (fun z27 h => ?_)
      refine k_goto (tgt := 309) X dX3_takeStatement_284 (by decide) ?_
      exact k_vret X hrt hlk dX3_takeStatement_309 h
    rw [if_neg q38] at h
    by_cases q39 : (z (r1 + 34) a3.toNat) = 7
    · rw [if_pos q39] at h
      refine k_swin (tgt := 287) X dX3_takeStatement_54 hr31 q39 (by decide) (by decide) rfl (by decide) ?_
      refine k_aload_n X dX3_takeStatement_287 1 rfl ?_
      refine k_iload X dX3_takeStatement_288 5 rfl ?_
      refine k_afterP (st := [.ref (ad t)]) (fun H locs ls hP hS hl => k_runS (As := [kI v2]) X lk_X3_50 yo_X3_born rfl (kR_ok (by decide) (by decide)) (ct_X3_born (kCx_j X) _ _ _ h) (Nat.le_of_ble_eq_true rfl) dX3_takeStatement_290 hP hS hl) (fun v28 h => ?_)
      refine k_iload X dX3_takeStatement_293 4 rfl ?_
      refine k_afterP (st := [kI v28, .ref (ad t)]) (fun H locs ls hP hS hl => k_runS (As := [kI v1]) X lk_X3_50 yo_X3_born rfl (kR_ok (by decide) (by decide)) (ct_X3_born (kCx_j X) _ _ _ h) (Nat.le_of_ble_eq_true rfl) dX3_takeStatement_295 hP hS hl) (fun v29 h => ?_)
      refine k_iload X dX3_takeStatement_298 0 rfl ?_
      refine k_ldc X 100000 mw520 dX3_takeStatement_300 ?_
      refine k_iload_n X dX3_takeStatement_302 3 rfl ?_
      refine k_afterV (st := []) (fun H locs ls hP hS hl => k_runV (As := [kI v28, kI v29, kI v4, kI 100000, kI a3]) X lk_X3_53 rfl yo_X3_addLess rfl (kR_ok (by decide) (by decide)) (ct_X3_addLess (kCx_j X) t ht _ _ _ _ _ _ _ h) ht rfl (Nat.le_of_ble_eq_true rfl) dX3_takeStatement_303 hP hS hl) (fun z30 h => ?_)
      refine k_goto (tgt := 309) X dX3_takeStatement_306 (by decide) ?_
      exact k_vret X hrt hlk dX3_takeStatement_309 h
    rw [if_neg q39] at h
    refine k_swout (tgt := 309) X dX3_takeStatement_54 hr31 (by omega) (by decide) ?_
    exact k_vret X hrt hlk dX3_takeStatement_309 h
  · refine k_if_ge (tgt := 27) X dX3_takeStatement_19 (by decide) h (fun h => ?_) (fun h => ?_)
    · refine k_aload_n X dX3_takeStatement_27 3 rfl ?_
      refine k_getR (t := r2 + 1) X fk_X3_57 hr2 (by decide) rfl dX3_takeStatement_28 ?_
      refine k_aload_n X dX3_takeStatement_31 2 rfl ?_
      refine k_getR (t := r1 + 36) X fk_X3_67 hr1 (by decide) rfl dX3_takeStatement_32 ?_
      refine k_iload_n X dX3_takeStatement_35 4 rfl ?_
      refine k_iald X (kc_0_7 hr1) (Nat.le_of_ble_eq_true rfl) dX3_takeStatement_36 h (fun h => ?_)
      refine k_iald X (kc_1_2 hr2) (Nat.le_of_ble_eq_true rfl) dX3_takeStatement_37 h (fun h => ?_)
      refine k_istore X dX3_takeStatement_38 h (fun v40 => [(5, kI v40), (4, kI v1), (0, .ref (ad t)), (1, .ref (ad r1)), (2, .ref (ad r2)), (3, kI a3)]) (by decide) (fun _ => rfl) (fun v40 h => ?_)
      exact k_sub [2, 3, 5, 1, 0] rfl (hJ3 _ h)
    · refine k_iload X dX3_takeStatement_22 0 rfl ?_
      refine k_goto (tgt := 38) X dX3_takeStatement_24 (by decide) ?_
      refine k_istore X dX3_takeStatement_38 h (fun v41 => [(5, kI v41), (4, kI v1), (0, .ref (ad t)), (1, .ref (ad r1)), (2, .ref (ad r2)), (3, kI a3)]) (by decide) (fun _ => rfl) (fun v41 h => ?_)
      exact k_sub [2, 3, 5, 1, 0] rfl (hJ3 _ h)
set_option maxHeartbeats 4000000 in
set_option maxRecDepth 100000 in
theorem ct_X3_tellRange {l : Launch} {D : va_G} {cA : Nat → ClassId} {ad sa : Nat → Nat} (hj : kInj NC ad) (a1 : Int) (z : Hp) (Kp : Int → Prop) (h : cal_X3_tellRange a1 z Kp) : kMet l yX3_tellRange cX3_tellRange 1 (some .int) 0 NC kdC D cA ad sa [kI a1] z (kQi NC kdC D cA ad (fun v z1 => z1 = z ∧ Kp v)) := by
  unfold cal_X3_tellRange at h
  refine k_met (cc := cX3_tellRange) (own := RX3) (nL := 1) rfl rfl (Nat.le_of_ble_eq_true rfl) hj kltC (fun p e s m below meth c X hrt hlk => ?_)
  refine k_sub (lv' := [(0, kI a1)]) [0] rfl ?_
  refine k_iload_n X dX3_tellRange_0 0 rfl ?_
  refine k_bipush X dX3_tellRange_1 (by decide +kernel) ?_
  refine k_icmp_ge (tgt := 10) X dX3_tellRange_3 (by decide) ⟨h.1, ⟨by decide, by decide⟩, h.2⟩ (fun h => ?_) (fun h => ?_)
  · refine k_sipush X dX3_tellRange_10 (by decide +kernel) ?_
    refine k_iload_n X dX3_tellRange_13 0 rfl ?_
    refine k_iadd X dX3_tellRange_14 ?_
    refine k_bipush X dX3_tellRange_15 (by decide +kernel) ?_
    refine k_isub X dX3_tellRange_17 ?_
    exact k_iret X hrt hlk dX3_tellRange_18 ⟨rfl, h⟩
  · refine k_iload_n X dX3_tellRange_6 0 rfl ?_
    refine k_goto (tgt := 18) X dX3_tellRange_7 (by decide) ?_
    exact k_iret X hrt hlk dX3_tellRange_18 ⟨rfl, h⟩
set_option maxHeartbeats 4000000 in
set_option maxRecDepth 100000 in
theorem ct_X3_tellRest {l : Launch} {D : va_G} {cA : Nat → ClassId} {ad sa : Nat → Nat} (hj : kInj NC ad) (t : Nat) (ht : kdC t = (0, 3, 12)) (a1 : Int) (a2 : Int) (a3 : Int) (z : Hp) (Kp : Int → Prop) (h : cal_X3_tellRest t a1 a2 a3 z Kp) : kMet l yX3_tellRest cX3_tellRest 5 (some .int) 1 NC kdC D cA ad sa [.ref (ad t), kI a1, kI a2, kI a3] z (kQi NC kdC D cA ad (fun v z1 => z1 = z ∧ Kp v)) := by
  unfold cal_X3_tellRest at h
  refine k_met (cc := cX3_tellRest) (own := RX3) (nL := 5) rfl rfl (Nat.le_of_ble_eq_true rfl) hj kltC (fun p e s m below meth c X hrt hlk => ?_)
  refine k_sub (lv' := [(0, .ref (ad t)), (1, kI a1), (2, kI a2), (3, kI a3)]) [0, 1, 2, 3] rfl ?_
  refine k_aload_n X dX3_tellRest_0 0 rfl ?_
  refine k_iload_n X dX3_tellRest_1 1 rfl ?_
  refine k_iload_n X dX3_tellRest_2 2 rfl ?_
  refine k_afterP (st := []) (fun H locs ls hP hS hl => k_runV (As := [kI a1, kI a2]) X lk_X3_106 rfl yo_X3_follow rfl (kR_ok (by decide) (by decide)) (ct_X3_follow (kCx_j X) t ht _ _ _ _ h) ht rfl (Nat.le_of_ble_eq_true rfl) dX3_tellRest_3 hP hS hl) (fun v1 h => ?_)
  refine k_istore X dX3_tellRest_6 h (fun v2 => [(4, kI v2), (0, .ref (ad t)), (1, kI a1), (2, kI a2), (3, kI a3)]) (by decide) (fun _ => rfl) (fun v2 h => ?_)
  refine k_iload X dX3_tellRest_8 0 rfl ?_
  refine k_if_ge (tgt := 16) X dX3_tellRest_10 (by decide) h (fun h => ?_) (fun h => ?_)
  · refine k_iload_n X dX3_tellRest_16 4 rfl ?_
    refine k_if_ne (tgt := 28) X dX3_tellRest_17 (by decide) h (fun h => ?_) (fun h => ?_)
    · refine k_aload_n X dX3_tellRest_28 1 rfl ?_
      refine k_getR (t := t + 3) X fk_X3_18 ht (by decide) rfl dX3_tellRest_29 ?_
      refine k_iload X dX3_tellRest_32 0 rfl ?_
      refine k_iald X (kc_3_2 ht) (Nat.le_of_ble_eq_true rfl) dX3_tellRest_34 h (fun h => ?_)
      refine k_if_ge (tgt := 41) X dX3_tellRest_35 (by decide) h (fun h => ?_) (fun h => ?_)
      · refine k_iload_n X dX3_tellRest_41 4 rfl ?_
        refine k_iconst X dX3_tellRest_42 ?_
        refine k_icmp_ne (tgt := 61) X dX3_tellRest_43 (by decide) ⟨h.1, ⟨by decide, by decide⟩, h.2⟩ (fun h => ?_) (fun h => ?_)
        · refine k_aload_n X dX3_tellRest_61 1 rfl ?_
          refine k_getR (t := t + 3) X fk_X3_18 ht (by decide) rfl dX3_tellRest_62 ?_
          refine k_iload X dX3_tellRest_65 0 rfl ?_
          refine k_iald X (kc_3_2 ht) (Nat.le_of_ble_eq_true rfl) dX3_tellRest_67 h (fun h => ?_)
          refine k_iconst X dX3_tellRest_68 ?_
          refine k_irem X dX3_tellRest_69 ⟨by decide, by decide⟩ h (fun h => ?_)
          exact k_iret X hrt hlk dX3_tellRest_70 ⟨rfl, h⟩
        · refine k_aload_n X dX3_tellRest_46 1 rfl ?_
          refine k_getR (t := t + 3) X fk_X3_18 ht (by decide) rfl dX3_tellRest_47 ?_
          refine k_iload X dX3_tellRest_50 0 rfl ?_
          refine k_iald X (kc_3_2 ht) (Nat.le_of_ble_eq_true rfl) dX3_tellRest_52 h (fun h => ?_)
          refine k_iconst X dX3_tellRest_53 ?_
          refine k_idiv X dX3_tellRest_54 ⟨by decide, by decide⟩ h (fun h => ?_)
          refine k_afterP (st := []) (fun H locs ls hP hS hl => k_runS (As := [kI ((z (t + 3) v2.toNat) / 2)]) X lk_X3_110 yo_X3_tellRange rfl (kR_ok (by decide) (by decide)) (ct_X3_tellRange (kCx_j X) _ _ _ h) (Nat.le_of_ble_eq_true rfl) dX3_tellRest_55 hP hS hl) (fun v3 h => ?_)
          refine k_goto (tgt := 70) X dX3_tellRest_58 (by decide) ?_
          exact k_iret X hrt hlk dX3_tellRest_70 ⟨rfl, h⟩
      · refine k_bipush X dX3_tellRest_38 (by decide +kernel) ?_
        exact k_iret X hrt hlk dX3_tellRest_40 ⟨rfl, h⟩
    · refine k_aload_n X dX3_tellRest_20 1 rfl ?_
      refine k_getR (t := t + 2) X fk_X3_15 ht (by decide) rfl dX3_tellRest_21 ?_
      refine k_iload X dX3_tellRest_24 0 rfl ?_
      refine k_iald X (kc_3_1 ht) (Nat.le_of_ble_eq_true rfl) dX3_tellRest_26 h (fun h => ?_)
      exact k_iret X hrt hlk dX3_tellRest_27 ⟨rfl, h⟩
  · refine k_bipush X dX3_tellRest_13 (by decide +kernel) ?_
    exact k_iret X hrt hlk dX3_tellRest_15 ⟨rfl, h⟩
set_option maxHeartbeats 4000000 in
set_option maxRecDepth 100000 in
theorem ct_X3_wipe {l : Launch} {D : va_G} {cA : Nat → ClassId} {ad sa : Nat → Nat} (hj : kInj NC ad) (t : Nat) (ht : kdC t = (0, 3, 12)) (z : Hp) (Kp : Hp → Prop) (h : cal_X3_wipe t z Kp) : kMet l yX3_wipe cX3_wipe 2 none 0 NC kdC D cA ad sa [.ref (ad t)] z (kQv NC kdC D cA ad Kp) := by
  unfold cal_X3_wipe at h
  refine k_met (cc := cX3_wipe) (own := RX3) (nL := 2) rfl rfl (Nat.le_of_ble_eq_true rfl) hj kltC (fun p e s m below meth c X hrt hlk => ?_)
  refine k_sub (lv' := [(0, .ref (ad t))]) [0] rfl ?_
  refine k_iconst X dX3_wipe_0 ?_
  refine k_istore_n X dX3_wipe_1 h (fun v1 => [(1, kI v1), (0, .ref (ad t))]) (by decide) (fun _ => rfl) (fun v1 h => ?_)
  refine k_sub (lv' := [(0, .ref (ad t)), (1, kI v1)]) [1, 0] rfl ?_
  refine h (fun v3 z4 => kAt p l e (kR 0) s m ([.ref (ad t)] : List Value).toArray below meth c (MQ below (kQv NC kdC D cA ad Kp) ([.ref (ad t)] : List Value).toArray s 0 0 (kA NC ad)) 2 NC kdC D cA ad 2 [(0, .ref (ad t)), (1, kI v3)] [] z4) (fun v3 z4 h => ?_)
  refine k_iload_n X dX3_wipe_2 1 rfl ?_
  refine k_bipush X dX3_wipe_3 (by decide +kernel) ?_
  refine k_icmp_ge (tgt := 36) X dX3_wipe_5 (by decide) ⟨h.1, ⟨by decide, by decide⟩, h.2⟩ (fun h => ?_) (fun h => ?_)
  · refine k_iconst X dX3_wipe_36 ?_
    refine k_istore_n X dX3_wipe_37 h (fun v5 => [(1, kI v5), (0, .ref (ad t))]) (by decide) (fun _ => rfl) (fun v5 h => ?_)
    refine k_sub (lv' := [(0, .ref (ad t)), (1, kI v5)]) [1, 0] rfl ?_
    refine h (fun v7 z8 => kAt p l e (kR 0) s m ([.ref (ad t)] : List Value).toArray below meth c (MQ below (kQv NC kdC D cA ad Kp) ([.ref (ad t)] : List Value).toArray s 0 0 (kA NC ad)) 2 NC kdC D cA ad 38 [(0, .ref (ad t)), (1, kI v7)] [] z8) (fun v7 z8 h => ?_)
    refine k_iload_n X dX3_wipe_38 1 rfl ?_
    refine k_sipush X dX3_wipe_39 (by decide +kernel) ?_
    refine k_icmp_ge (tgt := 65) X dX3_wipe_42 (by decide) ⟨h.1, ⟨by decide, by decide⟩, h.2⟩ (fun h => ?_) (fun h => ?_)
    · refine k_aload_n X dX3_wipe_65 0 rfl ?_
      refine k_iconst X dX3_wipe_66 ?_
      refine k_putI X fp_X3_36 ht rfl dX3_wipe_67 (k_nameH h (fun z9 h => ?_))
      refine k_aload_n X dX3_wipe_70 0 rfl ?_
      refine k_iconst X dX3_wipe_71 ?_
      refine k_putI X fp_X3_40 ht rfl dX3_wipe_72 (k_nameH h (fun z10 h => ?_))
      refine k_aload_n X dX3_wipe_75 0 rfl ?_
      refine k_iconst X dX3_wipe_76 ?_
      refine k_putI X fp_X3_43 ht rfl dX3_wipe_77 (k_nameH h (fun z11 h => ?_))
      exact k_vret X hrt hlk dX3_wipe_80 h
    · refine k_aload_n X dX3_wipe_45 0 rfl ?_
      refine k_getR (t := t + 2) X fk_X3_15 ht (by decide) rfl dX3_wipe_46 ?_
      refine k_iload_n X dX3_wipe_49 1 rfl ?_
      refine k_iconst X dX3_wipe_50 ?_
      refine k_iast X (kc_3_1 ht) (Nat.le_of_ble_eq_true rfl) dX3_wipe_51 h (fun h => k_nameH h (fun z12 h => ?_))
      refine k_aload_n X dX3_wipe_52 0 rfl ?_
      refine k_getR (t := t + 3) X fk_X3_18 ht (by decide) rfl dX3_wipe_53 ?_
      refine k_iload_n X dX3_wipe_56 1 rfl ?_
      refine k_iconst X dX3_wipe_57 ?_
      refine k_iast X (kc_3_2 ht) (Nat.le_of_ble_eq_true rfl) dX3_wipe_58 h (fun h => k_nameH h (fun z13 h => ?_))
      refine k_iinc X dX3_wipe_59 1 rfl h (fun v14 => [(1, kI v14), (0, .ref (ad t))]) (by decide) (fun _ => rfl) (fun v14 h => ?_)
      refine k_goto (tgt := 38) X dX3_wipe_62 (by decide) ?_
      exact k_sub [1, 0] rfl h
  · refine k_aload_n X dX3_wipe_8 0 rfl ?_
    refine k_getR (t := t + 1) X fk_X3_9 ht (by decide) rfl dX3_wipe_9 ?_
    refine k_iconst X dX3_wipe_12 ?_
    refine k_iload_n X dX3_wipe_13 1 rfl ?_
    refine k_imul X dX3_wipe_14 ?_
    refine k_iconst X dX3_wipe_15 ?_
    refine k_iast X (kc_3_0 ht) (Nat.le_of_ble_eq_true rfl) dX3_wipe_16 h (fun h => k_nameH h (fun z15 h => ?_))
    refine k_aload_n X dX3_wipe_17 0 rfl ?_
    refine k_getR (t := t + 1) X fk_X3_9 ht (by decide) rfl dX3_wipe_18 ?_
    refine k_iconst X dX3_wipe_21 ?_
    refine k_iload_n X dX3_wipe_22 1 rfl ?_
    refine k_imul X dX3_wipe_23 ?_
    refine k_iconst X dX3_wipe_24 ?_
    refine k_iadd X dX3_wipe_25 ?_
    refine k_sipush X dX3_wipe_26 (by decide +kernel) ?_
    refine k_iast X (kc_3_0 ht) (Nat.le_of_ble_eq_true rfl) dX3_wipe_29 h (fun h => k_nameH h (fun z16 h => ?_))
    refine k_iinc X dX3_wipe_30 1 rfl h (fun v17 => [(1, kI v17), (0, .ref (ad t))]) (by decide) (fun _ => rfl) (fun v17 h => ?_)
    refine k_goto (tgt := 2) X dX3_wipe_33 (by decide) ?_
    exact k_sub [1, 0] rfl h
set_option maxHeartbeats 4000000 in
set_option maxRecDepth 100000 in
theorem ct_X4_makeSame {l : Launch} {D : va_G} {cA : Nat → ClassId} {ad sa : Nat → Nat} (hj : kInj NC ad) (t : Nat) (ht : kdC t = (0, 4, 8)) (a1 : Int) (a2 : Int) (z : Hp) (Kp : Hp → Prop) (h : cal_X4_makeSame t a1 a2 z Kp) : kMet l yX4_makeSame cX4_makeSame 3 none 0 NC kdC D cA ad sa [.ref (ad t), kI a1, kI a2] z (kQv NC kdC D cA ad Kp) := by
  unfold cal_X4_makeSame at h
  refine k_met (cc := cX4_makeSame) (own := RX4) (nL := 3) rfl rfl (Nat.le_of_ble_eq_true rfl) hj kltC (fun p e s m below meth c X hrt hlk => ?_)
  refine k_sub (lv' := [(0, .ref (ad t)), (1, kI a1), (2, kI a2)]) [0, 1, 2] rfl ?_
  refine k_aload_n X dX4_makeSame_0 0 rfl ?_
  refine k_iconst X dX4_makeSame_1 ?_
  refine k_putI X fp_X4_19 ht rfl dX4_makeSame_2 (k_nameH h (fun z1 h => ?_))
  refine k_aload_n X dX4_makeSame_5 0 rfl ?_
  refine k_iload_n X dX4_makeSame_6 1 rfl ?_
  refine k_putI X fp_X4_23 ht rfl dX4_makeSame_7 (k_nameH h (fun z2 h => ?_))
  refine k_aload_n X dX4_makeSame_10 0 rfl ?_
  refine k_iload_n X dX4_makeSame_11 2 rfl ?_
  refine k_putI X fp_X4_26 ht rfl dX4_makeSame_12 (k_nameH h (fun z3 h => ?_))
  refine k_aload_n X dX4_makeSame_15 0 rfl ?_
  refine k_bipush X dX4_makeSame_16 (by decide +kernel) ?_
  refine k_putI X fp_X4_29 ht rfl dX4_makeSame_18 (k_nameH h (fun z4 h => ?_))
  refine k_aload_n X dX4_makeSame_21 0 rfl ?_
  refine k_bipush X dX4_makeSame_22 (by decide +kernel) ?_
  refine k_putI X fp_X4_32 ht rfl dX4_makeSame_24 (k_nameH h (fun z5 h => ?_))
  exact k_vret X hrt hlk dX4_makeSame_27 h
set_option maxHeartbeats 4000000 in
set_option maxRecDepth 100000 in
theorem ct_X4_sortOf {l : Launch} {D : va_G} {cA : Nat → ClassId} {ad sa : Nat → Nat} (hj : kInj NC ad) (a1 : Int) (z : Hp) (Kp : Int → Prop) (h : cal_X4_sortOf a1 z Kp) : kMet l yX4_sortOf cX4_sortOf 2 (some .int) 0 NC kdC D cA ad sa [kI a1] z (kQi NC kdC D cA ad (fun v z1 => z1 = z ∧ Kp v)) := by
  unfold cal_X4_sortOf at h
  refine k_met (cc := cX4_sortOf) (own := RX4) (nL := 2) rfl rfl (Nat.le_of_ble_eq_true rfl) hj kltC (fun p e s m below meth c X hrt hlk => ?_)
  refine k_sub (lv' := [(0, kI a1)]) [0] rfl ?_
  refine k_iconst X dX4_sortOf_0 ?_
  refine k_istore_n X dX4_sortOf_1 h (fun v1 => [(1, kI v1), (0, kI a1)]) (by decide) (fun _ => rfl) (fun v1 h => ?_)
  refine k_sub (lv' := [(0, kI a1), (1, kI v1)]) [1, 0] rfl ?_
  refine h (fun v3 => kAt p l e (kR 0) s m ([kI a1] : List Value).toArray below meth c (MQ below (kQi NC kdC D cA ad (fun v z1 => z1 = z ∧ Kp v)) ([kI a1] : List Value).toArray s 0 0 (kA NC ad)) 2 NC kdC D cA ad 2 [(0, kI a1), (1, kI v3)] [] z) (fun v3 h => ?_)
  refine k_iload_n X dX4_sortOf_2 1 rfl ?_
  refine k_gets X mw343 dX4_sortOf_3 (fun tl4 hl5 => ?_)
  refine k_letlen X hl5 dX4_sortOf_6 ?_
  refine k_icmp_ge (tgt := 27) X dX4_sortOf_7 (by decide) ⟨h.1, ⟨by decide, by decide⟩, h.2⟩ (fun h => ?_) (fun h => ?_)
  · refine k_iconst X dX4_sortOf_27 ?_
    exact k_iret X hrt hlk dX4_sortOf_28 ⟨rfl, h⟩
  · refine k_gets X mw343 dX4_sortOf_10 (fun tl6 hl7 => ?_)
    refine k_iload_n X dX4_sortOf_13 1 rfl ?_
    refine k_letat X hl7 dX4_sortOf_14 h (fun h => ?_)
    refine k_iload_n X dX4_sortOf_15 0 rfl ?_
    refine k_icmp_ne (tgt := 21) X dX4_sortOf_16 (by decide) h (fun h => ?_) (fun h => ?_)
    · refine k_iinc X dX4_sortOf_21 1 rfl h (fun v8 => [(1, kI v8), (0, kI a1)]) (by decide) (fun _ => rfl) (fun v8 h => ?_)
      refine k_goto (tgt := 2) X dX4_sortOf_24 (by decide) ?_
      exact k_sub [1, 0] rfl h
    · refine k_iload_n X dX4_sortOf_19 1 rfl ?_
      exact k_iret X hrt hlk dX4_sortOf_20 ⟨rfl, h⟩
set_option maxHeartbeats 4000000 in
set_option maxRecDepth 100000 in
theorem ct_X5_isFigure {l : Launch} {D : va_G} {cA : Nat → ClassId} {ad sa : Nat → Nat} (hj : kInj NC ad) (t : Nat) (ht : kdC t = (0, 5, 2)) (a1 : Int) (z : Hp) (Kp : Int → Prop) (h : cal_X5_isFigure t a1 z Kp) : kMet l yX5_isFigure cX5_isFigure 3 (some .boolean) 1 NC kdC D cA ad sa [.ref (ad t), kI a1] z (kQi NC kdC D cA ad (fun v z1 => z1 = z ∧ Kp v)) := by
  unfold cal_X5_isFigure at h
  refine k_met (cc := cX5_isFigure) (own := RX5) (nL := 3) rfl rfl (Nat.le_of_ble_eq_true rfl) hj kltC (fun p e s m below meth c X hrt hlk => ?_)
  refine k_sub (lv' := [(0, .ref (ad t)), (1, kI a1)]) [0, 1] rfl ?_
  refine k_aload_n X dX5_isFigure_0 0 rfl ?_
  refine k_iload_n X dX5_isFigure_1 1 rfl ?_
  refine k_afterP (st := []) (fun H locs ls hP hS hl => k_runV (As := [kI a1]) X lk_X5_32 rfl yo_X5_at rfl (kR_ok (by decide) (by decide)) (ct_X5_at (kCx_j X) t ht _ _ _ h) ht rfl (Nat.le_of_ble_eq_true rfl) dX5_isFigure_2 hP hS hl) (fun v1 h => ?_)
  refine k_istore_n X dX5_isFigure_5 h (fun v2 => [(2, kI v2), (0, .ref (ad t)), (1, kI a1)]) (by decide) (fun _ => rfl) (fun v2 h => ?_)
  refine k_iload_n X dX5_isFigure_6 0 rfl ?_
  refine k_bipush X dX5_isFigure_7 (by decide +kernel) ?_
  refine k_icmp_lt (tgt := 22) X dX5_isFigure_9 (by decide) ⟨h.1, ⟨by decide, by decide⟩, h.2⟩ (fun h => ?_) (fun h => ?_)
  · refine k_iconst X dX5_isFigure_22 ?_
    exact k_zret X hrt hlk dX5_isFigure_23 ⟨Or.inl rfl, ⟨rfl, h⟩⟩
  · refine k_iload_n X dX5_isFigure_12 0 rfl ?_
    refine k_bipush X dX5_isFigure_13 (by decide +kernel) ?_
    refine k_icmp_gt (tgt := 22) X dX5_isFigure_15 (by decide) ⟨h.1, ⟨by decide, by decide⟩, h.2⟩ (fun h => ?_) (fun h => ?_)
    · refine k_iconst X dX5_isFigure_22 ?_
      exact k_zret X hrt hlk dX5_isFigure_23 ⟨Or.inl rfl, ⟨rfl, h⟩⟩
    · refine k_iconst X dX5_isFigure_18 ?_
      refine k_goto (tgt := 23) X dX5_isFigure_19 (by decide) ?_
      exact k_zret X hrt hlk dX5_isFigure_23 ⟨Or.inr rfl, ⟨rfl, h⟩⟩
set_option maxHeartbeats 4000000 in
set_option maxRecDepth 100000 in
theorem ct_X4_takeNumber {l : Launch} {D : va_G} {cA : Nat → ClassId} {ad sa : Nat → Nat} (hj : kInj NC ad) (t : Nat) (ht : kdC t = (0, 4, 8)) (r1 : Nat) (hr1 : kdC r1 = (0, 5, 2)) (a2 : Int) (a3 : Int) (z : Hp) (Kp : Int → Hp → Prop) (h : cal_X4_takeNumber t r1 a2 a3 z Kp) : kMet l yX4_takeNumber cX4_takeNumber 6 (some .int) 2 NC kdC D cA ad sa [.ref (ad t), .ref (ad r1), kI a2, kI a3] z (kQi NC kdC D cA ad Kp) := by
  unfold cal_X4_takeNumber at h
  refine k_met (cc := cX4_takeNumber) (own := RX4) (nL := 6) rfl rfl (Nat.le_of_ble_eq_true rfl) hj kltC (fun p e s m below meth c X hrt hlk => ?_)
  refine k_sub (lv' := [(0, .ref (ad t)), (1, .ref (ad r1)), (2, kI a2), (3, kI a3)]) [0, 1, 2, 3] rfl ?_
  refine k_aload_n X dX4_takeNumber_0 0 rfl ?_
  refine k_getI X fk_X4_35 ht rfl dX4_takeNumber_1 ?_
  refine k_if_lt (tgt := 10) X dX4_takeNumber_4 (by decide) h (fun h => ?_) (fun h => ?_)
  · refine k_aload_n X dX4_takeNumber_10 1 rfl ?_
    refine k_aload_n X dX4_takeNumber_11 0 rfl ?_
    refine k_getI X fk_X4_47 ht rfl dX4_takeNumber_12 ?_
    refine k_afterP (st := []) (fun H locs ls hP hS hl => k_runV (As := [kI (z t 6)]) X lk_X4_38 rfl yo_X5_at rfl (kR_ok (by decide) (by decide)) (ct_X5_at (kCx_j X) r1 hr1 _ _ _ h) hr1 rfl (Nat.le_of_ble_eq_true rfl) dX4_takeNumber_15 hP hS hl) (fun v1 h => ?_)
    refine k_bipush X dX4_takeNumber_18 (by decide +kernel) ?_
    refine k_icmp_eq (tgt := 34) X dX4_takeNumber_20 (by decide) ⟨h.1, ⟨by decide, by decide⟩, h.2⟩ (fun h => ?_) (fun h => ?_)
    · refine k_aload_n X dX4_takeNumber_34 0 rfl ?_
      refine k_aload_n X dX4_takeNumber_35 0 rfl ?_
      refine k_getI X fk_X4_47 ht rfl dX4_takeNumber_36 ?_
      refine k_iconst X dX4_takeNumber_39 ?_
      refine k_iadd X dX4_takeNumber_40 ?_
      refine k_putI X fp_X4_57 ht rfl dX4_takeNumber_41 (k_nameH h (fun z2 h => ?_))
      refine k_aload_n X dX4_takeNumber_44 0 rfl ?_
      refine k_aload_n X dX4_takeNumber_45 0 rfl ?_
      refine k_getI X fk_X4_57 ht rfl dX4_takeNumber_46 ?_
      refine k_putI X fp_X4_47 ht rfl dX4_takeNumber_49 (k_nameH h (fun z3 h => ?_))
      refine k_iconst X dX4_takeNumber_52 ?_
      refine k_istore X dX4_takeNumber_53 h (fun v4 => [(4, kI v4), (0, .ref (ad t)), (1, .ref (ad r1)), (2, kI a2), (3, kI a3)]) (by decide) (fun _ => rfl) (fun v4 h => ?_)
      refine k_iconst X dX4_takeNumber_55 ?_
      refine k_istore X dX4_takeNumber_56 h (fun v5 => [(5, kI v5), (4, kI v4), (0, .ref (ad t)), (1, .ref (ad r1)), (2, kI a2), (3, kI a3)]) (by decide) (fun _ => rfl) (fun v5 h => ?_)
      refine k_sub (lv' := [(0, .ref (ad t)), (1, .ref (ad r1)), (2, kI a2), (3, kI a3), (4, kI v4), (5, kI v5)]) [2, 3, 4, 5, 1, 0] rfl ?_
      refine h (fun v7 v8 z9 => kAt p l e (kR 2) s m ([.ref (ad t), .ref (ad r1), kI a2, kI a3] : List Value).toArray below meth c (MQ below (kQi NC kdC D cA ad Kp) ([.ref (ad t), .ref (ad r1), kI a2, kI a3] : List Value).toArray s 0 0 (kA NC ad)) 6 NC kdC D cA ad 58 [(0, .ref (ad t)), (1, .ref (ad r1)), (2, kI a2), (3, kI a3), (4, kI v7), (5, kI v8)] [] z9) (fun v7 v8 z9 h => ?_)
      refine k_iload X dX4_takeNumber_58 5 rfl ?_
      refine k_iconst X dX4_takeNumber_60 ?_
      refine jn_use (fun J11 => ∀ (v10 : Int) (z12 : Hp), J11 v10 z12 → kAt p l e (kR 2) s m ([.ref (ad t), .ref (ad r1), kI a2, kI a3] : List Value).toArray below meth c (MQ below (kQi NC kdC D cA ad Kp) ([.ref (ad t), .ref (ad r1), kI a2, kI a3] : List Value).toArray s 0 0 (kA NC ad)) 6 NC kdC D cA ad 110 [(0, .ref (ad t)), (2, kI a2), (3, kI a3), (4, kI v10)] [] z12) h ?_ (fun J11 hJ11 h => ?_)
      · intro v10 z12 h
        refine k_aload_n X dX4_takeNumber_110 0 rfl ?_
        refine k_getI X fk_X4_47 ht rfl dX4_takeNumber_111 ?_
        refine k_aload_n X dX4_takeNumber_114 0 rfl ?_
        refine k_getI X fk_X4_57 ht rfl dX4_takeNumber_115 ?_
        refine jn_use (fun J13 => J13 → kAt p l e (kR 2) s m ([.ref (ad t), .ref (ad r1), kI a2, kI a3] : List Value).toArray below meth c (MQ below (kQi NC kdC D cA ad Kp) ([.ref (ad t), .ref (ad r1), kI a2, kI a3] : List Value).toArray s 0 0 (kA NC ad)) 6 NC kdC D cA ad 133 [(0, .ref (ad t))] [] z12) h ?_ (fun J13 hJ13 h => ?_)
        · intro h
          refine k_aload_n X dX4_takeNumber_133 0 rfl ?_
          refine k_aload_n X dX4_takeNumber_134 0 rfl ?_
          refine k_getI X fk_X4_57 ht rfl dX4_takeNumber_135 ?_
          refine k_putI X fp_X4_35 ht rfl dX4_takeNumber_138 (k_nameH h (fun z14 h => ?_))
          refine k_bipush X dX4_takeNumber_141 (by decide +kernel) ?_
          exact k_iret X hrt hlk dX4_takeNumber_143 h
        · refine k_icmp_eq (tgt := 133) X dX4_takeNumber_118 (by decide) h (fun h => ?_) (fun h => ?_)
          · exact k_sub [0] rfl (hJ13 h)
          · refine k_iload X dX4_takeNumber_121 3 rfl ?_
            refine k_iload_n X dX4_takeNumber_123 1 rfl ?_
            refine k_icmp_lt (tgt := 133) X dX4_takeNumber_124 (by decide) h (fun h => ?_) (fun h => ?_)
            · exact k_sub [0] rfl (hJ13 h)
            · refine k_iload X dX4_takeNumber_127 3 rfl ?_
              refine k_iload_n X dX4_takeNumber_129 2 rfl ?_
              refine k_icmp_le (tgt := 144) X dX4_takeNumber_130 (by decide) h (fun h => ?_) (fun h => ?_)
              · refine k_iload X dX4_takeNumber_144 3 rfl ?_
                exact k_iret X hrt hlk dX4_takeNumber_146 h
              · exact k_sub [0] rfl (hJ13 h)
      · refine k_icmp_ge (tgt := 110) X dX4_takeNumber_61 (by decide) ⟨h.1, ⟨by decide, by decide⟩, h.2⟩ (fun h => ?_) (fun h => ?_)
        · exact k_sub [0, 2, 3, 4] rfl (hJ11 _ _ h)
        · refine k_aload_n X dX4_takeNumber_64 1 rfl ?_
          refine k_aload_n X dX4_takeNumber_65 0 rfl ?_
          refine k_getI X fk_X4_47 ht rfl dX4_takeNumber_66 ?_
          refine k_afterP (st := []) (fun H locs ls hP hS hl => k_runV (As := [kI (z9 t 6)]) X lk_X4_66 rfl yo_X5_isFigure rfl (kR_ok (by decide) (by decide)) (ct_X5_isFigure (kCx_j X) r1 hr1 _ _ _ h) hr1 rfl (Nat.le_of_ble_eq_true rfl) dX4_takeNumber_69 hP hS hl) (fun v15 h => ?_)
          refine k_if_eq (tgt := 110) X dX4_takeNumber_72 (by decide) h (fun h => ?_) (fun h => ?_)
          · exact k_sub [0, 2, 3, 4] rfl (hJ11 _ _ h)
          · refine k_bipush X dX4_takeNumber_75 (by decide +kernel) ?_
            refine k_iload X dX4_takeNumber_77 4 rfl ?_
            refine k_imul X dX4_takeNumber_79 ?_
            refine k_aload_n X dX4_takeNumber_80 1 rfl ?_
            refine k_aload_n X dX4_takeNumber_81 0 rfl ?_
            refine k_getI X fk_X4_47 ht rfl dX4_takeNumber_82 ?_
            refine k_afterP (st := [kI (10 * v7)]) (fun H locs ls hP hS hl => k_runV (As := [kI (z9 t 6)]) X lk_X4_38 rfl yo_X5_at rfl (kR_ok (by decide) (by decide)) (ct_X5_at (kCx_j X) r1 hr1 _ _ _ h) hr1 rfl (Nat.le_of_ble_eq_true rfl) dX4_takeNumber_85 hP hS hl) (fun v16 h => ?_)
            refine k_iadd X dX4_takeNumber_88 ?_
            refine k_bipush X dX4_takeNumber_89 (by decide +kernel) ?_
            refine k_isub X dX4_takeNumber_91 ?_
            refine k_istore X dX4_takeNumber_92 h (fun v17 => [(4, kI v17), (0, .ref (ad t)), (1, .ref (ad r1)), (2, kI a2), (3, kI a3), (5, kI v8)]) (by decide) (fun _ => rfl) (fun v17 h => ?_)
            refine k_aload_n X dX4_takeNumber_94 1 rfl ?_
            refine k_dup X dX4_takeNumber_95 rfl ?_
            refine k_getI X fk_X4_47 ht rfl dX4_takeNumber_96 ?_
            refine k_iconst X dX4_takeNumber_99 ?_
            refine k_iadd X dX4_takeNumber_100 ?_
            refine k_putI X fp_X4_47 ht rfl dX4_takeNumber_101 (k_nameH h (fun z18 h => ?_))
            refine k_iinc X dX4_takeNumber_104 5 rfl h (fun v19 => [(5, kI v19), (4, kI v17), (0, .ref (ad t)), (1, .ref (ad r1)), (2, kI a2), (3, kI a3)]) (by decide) (fun _ => rfl) (fun v19 h => ?_)
            refine k_goto (tgt := 58) X dX4_takeNumber_107 (by decide) ?_
            exact k_sub [2, 3, 4, 5, 1, 0] rfl h
    · refine k_aload_n X dX4_takeNumber_23 0 rfl ?_
      refine k_aload_n X dX4_takeNumber_24 0 rfl ?_
      refine k_getI X fk_X4_47 ht rfl dX4_takeNumber_25 ?_
      refine k_putI X fp_X4_35 ht rfl dX4_takeNumber_28 (k_nameH h (fun z20 h => ?_))
      refine k_bipush X dX4_takeNumber_31 (by decide +kernel) ?_
      exact k_iret X hrt hlk dX4_takeNumber_33 h
  · refine k_bipush X dX4_takeNumber_7 (by decide +kernel) ?_
    exact k_iret X hrt hlk dX4_takeNumber_9 h
set_option maxHeartbeats 4000000 in
set_option maxRecDepth 100000 in
theorem ct_X4_tellsHigh {l : Launch} {D : va_G} {cA : Nat → ClassId} {ad sa : Nat → Nat} (hj : kInj NC ad) (a1 : Int) (z : Hp) (Kp : Int → Prop) (h : cal_X4_tellsHigh a1 z Kp) : kMet l yX4_tellsHigh cX4_tellsHigh 1 (some .boolean) 0 NC kdC D cA ad sa [kI a1] z (kQi NC kdC D cA ad (fun v z1 => z1 = z ∧ Kp v)) := by
  unfold cal_X4_tellsHigh at h
  refine k_met (cc := cX4_tellsHigh) (own := RX4) (nL := 1) rfl rfl (Nat.le_of_ble_eq_true rfl) hj kltC (fun p e s m below meth c X hrt hlk => ?_)
  refine k_sub (lv' := [(0, kI a1)]) [0] rfl ?_
  refine k_iload_n X dX4_tellsHigh_0 0 rfl ?_
  refine jn_use (fun J1 => J1 → kAt p l e (kR 0) s m ([kI a1] : List Value).toArray below meth c (MQ below (kQi NC kdC D cA ad (fun v z1 => z1 = z ∧ Kp v)) ([kI a1] : List Value).toArray s 0 0 (kA NC ad)) 1 NC kdC D cA ad 14 [] [] z) h ?_ (fun J1 hJ1 h => ?_)
  · intro h
    refine k_iconst X dX4_tellsHigh_14 ?_
    refine k_goto (tgt := 19) X dX4_tellsHigh_15 (by decide) ?_
    exact k_zret X hrt hlk dX4_tellsHigh_19 ⟨Or.inr rfl, ⟨rfl, h⟩⟩
  · refine k_if_eq (tgt := 14) X dX4_tellsHigh_1 (by decide) h (fun h => ?_) (fun h => ?_)
    · exact k_sub [] rfl (hJ1 h)
    · refine k_iload_n X dX4_tellsHigh_4 0 rfl ?_
      refine k_iconst X dX4_tellsHigh_5 ?_
      refine k_icmp_eq (tgt := 14) X dX4_tellsHigh_6 (by decide) ⟨h.1, ⟨by decide, by decide⟩, h.2⟩ (fun h => ?_) (fun h => ?_)
      · exact k_sub [] rfl (hJ1 h)
      · refine k_iload_n X dX4_tellsHigh_9 0 rfl ?_
        refine k_iconst X dX4_tellsHigh_10 ?_
        refine k_icmp_ne (tgt := 18) X dX4_tellsHigh_11 (by decide) ⟨h.1, ⟨by decide, by decide⟩, h.2⟩ (fun h => ?_) (fun h => ?_)
        · refine k_iconst X dX4_tellsHigh_18 ?_
          exact k_zret X hrt hlk dX4_tellsHigh_19 ⟨Or.inl rfl, ⟨rfl, h⟩⟩
        · exact k_sub [] rfl (hJ1 h)
set_option maxHeartbeats 4000000 in
set_option maxRecDepth 100000 in
theorem ct_X4_tellsLow {l : Launch} {D : va_G} {cA : Nat → ClassId} {ad sa : Nat → Nat} (hj : kInj NC ad) (a1 : Int) (z : Hp) (Kp : Int → Prop) (h : cal_X4_tellsLow a1 z Kp) : kMet l yX4_tellsLow cX4_tellsLow 1 (some .boolean) 1 NC kdC D cA ad sa [kI a1] z (kQi NC kdC D cA ad (fun v z1 => z1 = z ∧ Kp v)) := by
  unfold cal_X4_tellsLow at h
  refine k_met (cc := cX4_tellsLow) (own := RX4) (nL := 1) rfl rfl (Nat.le_of_ble_eq_true rfl) hj kltC (fun p e s m below meth c X hrt hlk => ?_)
  refine k_sub (lv' := [(0, kI a1)]) [0] rfl ?_
  refine k_iload_n X dX4_tellsLow_0 0 rfl ?_
  refine k_bipush X dX4_tellsLow_1 (by decide +kernel) ?_
  refine jn_use (fun J1 => J1 → kAt p l e (kR 1) s m ([kI a1] : List Value).toArray below meth c (MQ below (kQi NC kdC D cA ad (fun v z1 => z1 = z ∧ Kp v)) ([kI a1] : List Value).toArray s 0 0 (kA NC ad)) 1 NC kdC D cA ad 19 [] [] z) h ?_ (fun J1 hJ1 h => ?_)
  · intro h
    refine k_iconst X dX4_tellsLow_19 ?_
    refine k_goto (tgt := 24) X dX4_tellsLow_20 (by decide) ?_
    exact k_zret X hrt hlk dX4_tellsLow_24 ⟨Or.inr rfl, ⟨rfl, h⟩⟩
  · refine k_icmp_eq (tgt := 19) X dX4_tellsLow_3 (by decide) ⟨h.1, ⟨by decide, by decide⟩, h.2⟩ (fun h => ?_) (fun h => ?_)
    · exact k_sub [] rfl (hJ1 h)
    · refine k_iload_n X dX4_tellsLow_6 0 rfl ?_
      refine k_bipush X dX4_tellsLow_7 (by decide +kernel) ?_
      refine k_icmp_eq (tgt := 19) X dX4_tellsLow_9 (by decide) ⟨h.1, ⟨by decide, by decide⟩, h.2⟩ (fun h => ?_) (fun h => ?_)
      · exact k_sub [] rfl (hJ1 h)
      · refine k_iload_n X dX4_tellsLow_12 0 rfl ?_
        refine k_afterP (st := []) (fun H locs ls hP hS hl => k_runS (As := [kI a1]) X lk_X4_9 yo_X4_tellsHigh rfl (kR_ok (by decide) (by decide)) (ct_X4_tellsHigh (kCx_j X) _ _ _ h) (Nat.le_of_ble_eq_true rfl) dX4_tellsLow_13 hP hS hl) (fun v2 h => ?_)
        refine k_if_eq (tgt := 23) X dX4_tellsLow_16 (by decide) h (fun h => ?_) (fun h => ?_)
        · refine k_iconst X dX4_tellsLow_23 ?_
          exact k_zret X hrt hlk dX4_tellsLow_24 ⟨Or.inl rfl, ⟨rfl, h⟩⟩
        · exact k_sub [] rfl (hJ1 h)
set_option maxHeartbeats 4000000 in
set_option maxRecDepth 100000 in
theorem ct_X4_tellsTwo {l : Launch} {D : va_G} {cA : Nat → ClassId} {ad sa : Nat → Nat} (hj : kInj NC ad) (a1 : Int) (z : Hp) (Kp : Int → Prop) (h : cal_X4_tellsTwo a1 z Kp) : kMet l yX4_tellsTwo cX4_tellsTwo 1 (some .boolean) 0 NC kdC D cA ad sa [kI a1] z (kQi NC kdC D cA ad (fun v z1 => z1 = z ∧ Kp v)) := by
  unfold cal_X4_tellsTwo at h
  refine k_met (cc := cX4_tellsTwo) (own := RX4) (nL := 1) rfl rfl (Nat.le_of_ble_eq_true rfl) hj kltC (fun p e s m below meth c X hrt hlk => ?_)
  refine k_sub (lv' := [(0, kI a1)]) [0] rfl ?_
  refine k_iload_n X dX4_tellsTwo_0 0 rfl ?_
  refine k_iconst X dX4_tellsTwo_1 ?_
  refine jn_use (fun J1 => J1 → kAt p l e (kR 0) s m ([kI a1] : List Value).toArray below meth c (MQ below (kQi NC kdC D cA ad (fun v z1 => z1 = z ∧ Kp v)) ([kI a1] : List Value).toArray s 0 0 (kA NC ad)) 1 NC kdC D cA ad 26 [] [] z) h ?_ (fun J1 hJ1 h => ?_)
  · intro h
    refine k_iconst X dX4_tellsTwo_26 ?_
    refine k_goto (tgt := 31) X dX4_tellsTwo_27 (by decide) ?_
    exact k_zret X hrt hlk dX4_tellsTwo_31 ⟨Or.inr rfl, ⟨rfl, h⟩⟩
  · refine k_icmp_eq (tgt := 26) X dX4_tellsTwo_2 (by decide) ⟨h.1, ⟨by decide, by decide⟩, h.2⟩ (fun h => ?_) (fun h => ?_)
    · exact k_sub [] rfl (hJ1 h)
    · refine k_iload_n X dX4_tellsTwo_5 0 rfl ?_
      refine k_iconst X dX4_tellsTwo_6 ?_
      refine k_icmp_eq (tgt := 26) X dX4_tellsTwo_7 (by decide) ⟨h.1, ⟨by decide, by decide⟩, h.2⟩ (fun h => ?_) (fun h => ?_)
      · exact k_sub [] rfl (hJ1 h)
      · refine k_iload_n X dX4_tellsTwo_10 0 rfl ?_
        refine k_iconst X dX4_tellsTwo_11 ?_
        refine k_icmp_eq (tgt := 26) X dX4_tellsTwo_12 (by decide) ⟨h.1, ⟨by decide, by decide⟩, h.2⟩ (fun h => ?_) (fun h => ?_)
        · exact k_sub [] rfl (hJ1 h)
        · refine k_iload_n X dX4_tellsTwo_15 0 rfl ?_
          refine k_iconst X dX4_tellsTwo_16 ?_
          refine k_icmp_eq (tgt := 26) X dX4_tellsTwo_17 (by decide) ⟨h.1, ⟨by decide, by decide⟩, h.2⟩ (fun h => ?_) (fun h => ?_)
          · exact k_sub [] rfl (hJ1 h)
          · refine k_iload_n X dX4_tellsTwo_20 0 rfl ?_
            refine k_bipush X dX4_tellsTwo_21 (by decide +kernel) ?_
            refine k_icmp_ne (tgt := 30) X dX4_tellsTwo_23 (by decide) ⟨h.1, ⟨by decide, by decide⟩, h.2⟩ (fun h => ?_) (fun h => ?_)
            · refine k_iconst X dX4_tellsTwo_30 ?_
              exact k_zret X hrt hlk dX4_tellsTwo_31 ⟨Or.inl rfl, ⟨rfl, h⟩⟩
            · exact k_sub [] rfl (hJ1 h)
set_option maxHeartbeats 4000000 in
set_option maxRecDepth 100000 in
theorem ct_X4_reads {l : Launch} {D : va_G} {cA : Nat → ClassId} {ad sa : Nat → Nat} (hj : kInj NC ad) (t : Nat) (ht : kdC t = (0, 4, 8)) (r1 : Nat) (hr1 : kdC r1 = (0, 5, 2)) (a2 : Int) (z : Hp) (Kp : Int → Hp → Prop) (h : cal_X4_reads t r1 a2 z Kp) : kMet l yX4_reads cX4_reads 3 (some .boolean) 3 NC kdC D cA ad sa [.ref (ad t), .ref (ad r1), kI a2] z (kQi NC kdC D cA ad Kp) := by
  unfold cal_X4_reads at h
  refine k_met (cc := cX4_reads) (own := RX4) (nL := 3) rfl rfl (Nat.le_of_ble_eq_true rfl) hj kltC (fun p e s m below meth c X hrt hlk => ?_)
  refine k_sub (lv' := [(0, .ref (ad t)), (1, .ref (ad r1)), (2, kI a2)]) [0, 1, 2] rfl ?_
  refine k_aload_n X dX4_reads_0 0 rfl ?_
  refine k_bipush X dX4_reads_1 (by decide +kernel) ?_
  refine k_putI X fp_X4_26 ht rfl dX4_reads_3 (k_nameH h (fun z1 h => ?_))
  refine k_aload_n X dX4_reads_6 0 rfl ?_
  refine k_bipush X dX4_reads_7 (by decide +kernel) ?_
  refine k_putI X fp_X4_29 ht rfl dX4_reads_9 (k_nameH h (fun z2 h => ?_))
  refine k_aload_n X dX4_reads_12 0 rfl ?_
  refine k_bipush X dX4_reads_13 (by decide +kernel) ?_
  refine k_putI X fp_X4_32 ht rfl dX4_reads_15 (k_nameH h (fun z3 h => ?_))
  refine k_aload_n X dX4_reads_18 0 rfl ?_
  refine k_iconst X dX4_reads_19 ?_
  refine k_putI X fp_X4_35 ht rfl dX4_reads_20 (k_nameH h (fun z4 h => ?_))
  refine k_aload_n X dX4_reads_23 0 rfl ?_
  refine k_aload_n X dX4_reads_24 1 rfl ?_
  refine k_iconst X dX4_reads_25 ?_
  refine k_afterP (st := [.ref (ad t)]) (fun H locs ls hP hS hl => k_runV (As := [kI 0]) X lk_X4_38 rfl yo_X5_at rfl (kR_ok (by decide) (by decide)) (ct_X5_at (kCx_j X) r1 hr1 _ _ _ h) hr1 rfl (Nat.le_of_ble_eq_true rfl) dX4_reads_26 hP hS hl) (fun v5 h => ?_)
  refine k_afterP (st := [.ref (ad t)]) (fun H locs ls hP hS hl => k_runS (As := [kI v5]) X lk_X4_44 yo_X4_sortOf rfl (kR_ok (by decide) (by decide)) (ct_X4_sortOf (kCx_j X) _ _ _ h) (Nat.le_of_ble_eq_true rfl) dX4_reads_29 hP hS hl) (fun v6 h => ?_)
  refine k_putI X fp_X4_19 ht rfl dX4_reads_32 (k_nameH h (fun z7 h => ?_))
  refine k_aload_n X dX4_reads_35 0 rfl ?_
  refine k_getI X fk_X4_19 ht rfl dX4_reads_36 ?_
  refine k_if_ge (tgt := 49) X dX4_reads_39 (by decide) h (fun h => ?_) (fun h => ?_)
  · refine k_aload_n X dX4_reads_49 0 rfl ?_
    refine k_iconst X dX4_reads_50 ?_
    refine k_putI X fp_X4_47 ht rfl dX4_reads_51 (k_nameH h (fun z8 h => ?_))
    refine k_aload_n X dX4_reads_54 0 rfl ?_
    refine k_aload_n X dX4_reads_55 0 rfl ?_
    refine k_aload_n X dX4_reads_56 1 rfl ?_
    refine k_iconst X dX4_reads_57 ?_
    refine k_iload_n X dX4_reads_58 2 rfl ?_
    refine k_iconst X dX4_reads_59 ?_
    refine k_isub X dX4_reads_60 ?_
    refine k_afterI (st := [.ref (ad t)]) (fun H locs ls hP hS hl => k_runV (As := [.ref (ad r1), kI 0, kI (a2 - 1)]) X lk_X4_50 rfl yo_X4_takeNumber rfl (kR_ok (by decide) (by decide)) (ct_X4_takeNumber (kCx_j X) t ht r1 hr1 _ _ _ _ h) ht rfl (Nat.le_of_ble_eq_true rfl) dX4_reads_61 hP hS hl) (fun v10 z9 h => ?_)
    refine k_putI X fp_X4_23 ht rfl dX4_reads_64 (k_nameH h (fun z11 h => ?_))
    refine k_aload_n X dX4_reads_67 0 rfl ?_
    refine k_getI X fk_X4_19 ht rfl dX4_reads_68 ?_
    refine k_afterP (st := []) (fun H locs ls hP hS hl => k_runS (As := [kI (z11 t 0)]) X lk_X4_54 yo_X4_tellsTwo rfl (kR_ok (by decide) (by decide)) (ct_X4_tellsTwo (kCx_j X) _ _ _ h) (Nat.le_of_ble_eq_true rfl) dX4_reads_71 hP hS hl) (fun v12 h => ?_)
    refine jn_use (fun J13 => ∀ (z14 : Hp), J13 z14 → kAt p l e (kR 3) s m ([.ref (ad t), .ref (ad r1), kI a2] : List Value).toArray below meth c (MQ below (kQi NC kdC D cA ad Kp) ([.ref (ad t), .ref (ad r1), kI a2] : List Value).toArray s 0 0 (kA NC ad)) 3 NC kdC D cA ad 116 [(0, .ref (ad t)), (1, .ref (ad r1))] [] z14) h ?_ (fun J13 hJ13 h => ?_)
    · intro z14 h
      refine k_aload_n X dX4_reads_116 0 rfl ?_
      refine k_getI X fk_X4_19 ht rfl dX4_reads_117 ?_
      refine k_afterP (st := []) (fun H locs ls hP hS hl => k_runS (As := [kI (z14 t 0)]) X lk_X4_60 yo_X4_tellsLow rfl (kR_ok (by decide) (by decide)) (ct_X4_tellsLow (kCx_j X) _ _ _ h) (Nat.le_of_ble_eq_true rfl) dX4_reads_120 hP hS hl) (fun v15 h => ?_)
      refine jn_use (fun J16 => ∀ (z17 : Hp), J16 z17 → kAt p l e (kR 3) s m ([.ref (ad t), .ref (ad r1), kI a2] : List Value).toArray below meth c (MQ below (kQi NC kdC D cA ad Kp) ([.ref (ad t), .ref (ad r1), kI a2] : List Value).toArray s 0 0 (kA NC ad)) 3 NC kdC D cA ad 153 [(0, .ref (ad t)), (1, .ref (ad r1))] [] z17) h ?_ (fun J16 hJ16 h => ?_)
      · intro z17 h
        refine k_aload_n X dX4_reads_153 0 rfl ?_
        refine k_getI X fk_X4_19 ht rfl dX4_reads_154 ?_
        refine k_afterP (st := []) (fun H locs ls hP hS hl => k_runS (As := [kI (z17 t 0)]) X lk_X4_9 yo_X4_tellsHigh rfl (kR_ok (by decide) (by decide)) (ct_X4_tellsHigh (kCx_j X) _ _ _ h) (Nat.le_of_ble_eq_true rfl) dX4_reads_157 hP hS hl) (fun v18 h => ?_)
        refine jn_use (fun J19 => ∀ (z20 : Hp), J19 z20 → kAt p l e (kR 3) s m ([.ref (ad t), .ref (ad r1), kI a2] : List Value).toArray below meth c (MQ below (kQi NC kdC D cA ad Kp) ([.ref (ad t), .ref (ad r1), kI a2] : List Value).toArray s 0 0 (kA NC ad)) 3 NC kdC D cA ad 179 [(0, .ref (ad t)), (1, .ref (ad r1))] [] z20) h ?_ (fun J19 hJ19 h => ?_)
        · intro z20 h
          refine k_aload_n X dX4_reads_179 0 rfl ?_
          refine k_getI X fk_X4_35 ht rfl dX4_reads_180 ?_
          refine jn_use (fun J21 => ∀ (z22 : Hp), J21 z22 → kAt p l e (kR 3) s m ([.ref (ad t), .ref (ad r1), kI a2] : List Value).toArray below meth c (MQ below (kQi NC kdC D cA ad Kp) ([.ref (ad t), .ref (ad r1), kI a2] : List Value).toArray s 0 0 (kA NC ad)) 3 NC kdC D cA ad 205 [(0, .ref (ad t))] [] z22) h ?_ (fun J21 hJ21 h => ?_)
          · intro z22 h
            refine k_aload_n X dX4_reads_205 0 rfl ?_
            refine k_getI X fk_X4_35 ht rfl dX4_reads_206 ?_
            refine k_if_ge (tgt := 216) X dX4_reads_209 (by decide) h (fun h => ?_) (fun h => ?_)
            · refine k_iconst X dX4_reads_216 ?_
              exact k_zret X hrt hlk dX4_reads_217 ⟨Or.inl rfl, h⟩
            · refine k_iconst X dX4_reads_212 ?_
              refine k_goto (tgt := 217) X dX4_reads_213 (by decide) ?_
              exact k_zret X hrt hlk dX4_reads_217 ⟨Or.inr rfl, h⟩
          · refine k_if_ge (tgt := 205) X dX4_reads_183 (by decide) h (fun h => ?_) (fun h => ?_)
            · exact k_sub [0] rfl (hJ21 _ h)
            · refine k_aload_n X dX4_reads_186 0 rfl ?_
              refine k_getI X fk_X4_47 ht rfl dX4_reads_187 ?_
              refine k_aload_n X dX4_reads_190 1 rfl ?_
              refine k_getI X fk_X4_63 hr1 rfl dX4_reads_191 ?_
              refine k_icmp_ge (tgt := 205) X dX4_reads_194 (by decide) h (fun h => ?_) (fun h => ?_)
              · exact k_sub [0] rfl (hJ21 _ h)
              · refine k_aload_n X dX4_reads_197 0 rfl ?_
                refine k_aload_n X dX4_reads_198 0 rfl ?_
                refine k_getI X fk_X4_47 ht rfl dX4_reads_199 ?_
                refine k_putI X fp_X4_35 ht rfl dX4_reads_202 (k_nameH h (fun z23 h => ?_))
                exact k_sub [0] rfl (hJ21 _ h)
        · refine k_if_eq (tgt := 179) X dX4_reads_160 (by decide) h (fun h => ?_) (fun h => ?_)
          · exact k_sub [0, 1] rfl (hJ19 _ h)
          · refine k_aload_n X dX4_reads_163 0 rfl ?_
            refine k_aload_n X dX4_reads_164 0 rfl ?_
            refine k_aload_n X dX4_reads_165 1 rfl ?_
            refine k_aload_n X dX4_reads_166 0 rfl ?_
            refine k_getI X fk_X4_29 ht rfl dX4_reads_167 ?_
            refine k_sipush X dX4_reads_170 (by decide +kernel) ?_
            refine k_afterI (st := [.ref (ad t)]) (fun H locs ls hP hS hl => k_runV (As := [.ref (ad r1), kI (z17 t 3), kI 3000]) X lk_X4_50 rfl yo_X4_takeNumber rfl (kR_ok (by decide) (by decide)) (ct_X4_takeNumber (kCx_j X) t ht r1 hr1 _ _ _ _ h) ht rfl (Nat.le_of_ble_eq_true rfl) dX4_reads_173 hP hS hl) (fun v25 z24 h => ?_)
            refine k_putI X fp_X4_32 ht rfl dX4_reads_176 (k_nameH h (fun z26 h => ?_))
            exact k_sub [0, 1] rfl (hJ19 _ h)
      · refine k_if_eq (tgt := 153) X dX4_reads_123 (by decide) h (fun h => ?_) (fun h => ?_)
        · exact k_sub [0, 1] rfl (hJ16 _ h)
        · refine k_aload_n X dX4_reads_126 0 rfl ?_
          refine k_aload_n X dX4_reads_127 0 rfl ?_
          refine k_aload_n X dX4_reads_128 1 rfl ?_
          refine k_iconst X dX4_reads_129 ?_
          refine k_aload_n X dX4_reads_130 0 rfl ?_
          refine k_getI X fk_X4_19 ht rfl dX4_reads_131 ?_
          refine k_bipush X dX4_reads_134 (by decide +kernel) ?_
          refine k_icmp_ne (tgt := 144) X dX4_reads_136 (by decide) ⟨h.1, ⟨by decide, by decide⟩, h.2⟩ (fun h => ?_) (fun h => ?_)
          · refine k_sipush X dX4_reads_144 (by decide +kernel) ?_
            refine k_afterI (st := [.ref (ad t)]) (fun H locs ls hP hS hl => k_runV (As := [.ref (ad r1), kI 0, kI 3000]) X lk_X4_50 rfl yo_X4_takeNumber rfl (kR_ok (by decide) (by decide)) (ct_X4_takeNumber (kCx_j X) t ht r1 hr1 _ _ _ _ h) ht rfl (Nat.le_of_ble_eq_true rfl) dX4_reads_147 hP hS hl) (fun v28 z27 h => ?_)
            refine k_putI X fp_X4_29 ht rfl dX4_reads_150 (k_nameH h (fun z29 h => ?_))
            exact k_sub [0, 1] rfl (hJ16 _ h)
          · refine k_bipush X dX4_reads_139 (by decide +kernel) ?_
            refine k_goto (tgt := 147) X dX4_reads_141 (by decide) ?_
            refine k_afterI (st := [.ref (ad t)]) (fun H locs ls hP hS hl => k_runV (As := [.ref (ad r1), kI 0, kI 99]) X lk_X4_50 rfl yo_X4_takeNumber rfl (kR_ok (by decide) (by decide)) (ct_X4_takeNumber (kCx_j X) t ht r1 hr1 _ _ _ _ h) ht rfl (Nat.le_of_ble_eq_true rfl) dX4_reads_147 hP hS hl) (fun v31 z30 h => ?_)
            refine k_putI X fp_X4_29 ht rfl dX4_reads_150 (k_nameH h (fun z32 h => ?_))
            exact k_sub [0, 1] rfl (hJ16 _ h)
    · refine k_if_eq (tgt := 116) X dX4_reads_74 (by decide) h (fun h => ?_) (fun h => ?_)
      · exact k_sub [0, 1] rfl (hJ13 _ h)
      · refine k_aload_n X dX4_reads_77 0 rfl ?_
        refine k_aload_n X dX4_reads_78 0 rfl ?_
        refine k_aload_n X dX4_reads_79 1 rfl ?_
        refine k_iconst X dX4_reads_80 ?_
        refine k_iload_n X dX4_reads_81 2 rfl ?_
        refine k_iconst X dX4_reads_82 ?_
        refine k_isub X dX4_reads_83 ?_
        refine k_afterI (st := [.ref (ad t)]) (fun H locs ls hP hS hl => k_runV (As := [.ref (ad r1), kI 0, kI (a2 - 1)]) X lk_X4_50 rfl yo_X4_takeNumber rfl (kR_ok (by decide) (by decide)) (ct_X4_takeNumber (kCx_j X) t ht r1 hr1 _ _ _ _ h) ht rfl (Nat.le_of_ble_eq_true rfl) dX4_reads_84 hP hS hl) (fun v34 z33 h => ?_)
        refine k_putI X fp_X4_26 ht rfl dX4_reads_87 (k_nameH h (fun z35 h => ?_))
        refine k_aload_n X dX4_reads_90 0 rfl ?_
        refine k_getI X fk_X4_35 ht rfl dX4_reads_91 ?_
        refine k_if_ge (tgt := 116) X dX4_reads_94 (by decide) h (fun h => ?_) (fun h => ?_)
        · exact k_sub [0, 1] rfl (hJ13 _ h)
        · refine k_aload_n X dX4_reads_97 0 rfl ?_
          refine k_getI X fk_X4_26 ht rfl dX4_reads_98 ?_
          refine k_aload_n X dX4_reads_101 0 rfl ?_
          refine k_getI X fk_X4_23 ht rfl dX4_reads_102 ?_
          refine k_icmp_ne (tgt := 116) X dX4_reads_105 (by decide) h (fun h => ?_) (fun h => ?_)
          · exact k_sub [0, 1] rfl (hJ13 _ h)
          · refine k_aload_n X dX4_reads_108 0 rfl ?_
            refine k_aload_n X dX4_reads_109 0 rfl ?_
            refine k_getI X fk_X4_57 ht rfl dX4_reads_110 ?_
            refine k_putI X fp_X4_35 ht rfl dX4_reads_113 (k_nameH h (fun z36 h => ?_))
            exact k_sub [0, 1] rfl (hJ13 _ h)
  · refine k_aload_n X dX4_reads_42 0 rfl ?_
    refine k_iconst X dX4_reads_43 ?_
    refine k_putI X fp_X4_35 ht rfl dX4_reads_44 (k_nameH h (fun z37 h => ?_))
    refine k_iconst X dX4_reads_47 ?_
    exact k_zret X hrt hlk dX4_reads_48 ⟨Or.inl rfl, h⟩
set_option maxHeartbeats 4000000 in
set_option maxRecDepth 100000 in
theorem ct_X5_nameFault {l : Launch} {D : va_G} {cA : Nat → ClassId} {ad sa : Nat → Nat} (hj : kInj NC ad) (t : Nat) (ht : kdC t = (0, 5, 2)) (z : Hp) (Kp : Int → Prop) (h : cal_X5_nameFault t z Kp) : kMet l yX5_nameFault cX5_nameFault 2 (some .int) 0 NC kdC D cA ad sa [.ref (ad t)] z (kQi NC kdC D cA ad (fun v z1 => z1 = z ∧ Kp v)) := by
  unfold cal_X5_nameFault at h
  refine k_met (cc := cX5_nameFault) (own := RX5) (nL := 2) rfl rfl (Nat.le_of_ble_eq_true rfl) hj kltC (fun p e s m below meth c X hrt hlk => ?_)
  refine k_sub (lv' := [(0, .ref (ad t))]) [0] rfl ?_
  refine k_iconst X dX5_nameFault_0 ?_
  refine k_istore_n X dX5_nameFault_1 h (fun v1 => [(1, kI v1), (0, .ref (ad t))]) (by decide) (fun _ => rfl) (fun v1 h => ?_)
  refine k_sub (lv' := [(0, .ref (ad t)), (1, kI v1)]) [1, 0] rfl ?_
  refine h (fun v3 => kAt p l e (kR 0) s m ([.ref (ad t)] : List Value).toArray below meth c (MQ below (kQi NC kdC D cA ad (fun v z1 => z1 = z ∧ Kp v)) ([.ref (ad t)] : List Value).toArray s 0 0 (kA NC ad)) 2 NC kdC D cA ad 2 [(0, .ref (ad t)), (1, kI v3)] [] z) (fun v3 h => ?_)
  refine k_iload_n X dX5_nameFault_2 1 rfl ?_
  refine k_aload_n X dX5_nameFault_3 0 rfl ?_
  refine k_getI X fk_X5_15 ht rfl dX5_nameFault_4 ?_
  refine k_icmp_ge (tgt := 46) X dX5_nameFault_7 (by decide) h (fun h => ?_) (fun h => ?_)
  · refine k_aload_n X dX5_nameFault_46 0 rfl ?_
    refine k_getI X fk_X5_15 ht rfl dX5_nameFault_47 ?_
    refine k_if_ne (tgt := 57) X dX5_nameFault_50 (by decide) h (fun h => ?_) (fun h => ?_)
    · refine k_iconst X dX5_nameFault_57 ?_
      exact k_iret X hrt hlk dX5_nameFault_58 ⟨rfl, h⟩
    · refine k_iconst X dX5_nameFault_53 ?_
      refine k_goto (tgt := 58) X dX5_nameFault_54 (by decide) ?_
      exact k_iret X hrt hlk dX5_nameFault_58 ⟨rfl, h⟩
  · refine k_iload_n X dX5_nameFault_10 1 rfl ?_
    refine k_bipush X dX5_nameFault_11 (by decide +kernel) ?_
    refine k_icmp_ge (tgt := 38) X dX5_nameFault_13 (by decide) ⟨h.1, ⟨by decide, by decide⟩, h.2⟩ (fun h => ?_) (fun h => ?_)
    · refine k_iload_n X dX5_nameFault_38 1 rfl ?_
      exact k_iret X hrt hlk dX5_nameFault_39 ⟨rfl, h⟩
    · refine k_aload_n X dX5_nameFault_16 0 rfl ?_
      refine k_getR (t := t + 1) X fk_X5_9 ht (by decide) rfl dX5_nameFault_17 ?_
      refine k_iload_n X dX5_nameFault_20 1 rfl ?_
      refine k_bald X (kc_5_0 ht) (klT_le ht) dX5_nameFault_21 h (fun h => ?_)
      refine k_bipush X dX5_nameFault_22 (by decide +kernel) ?_
      refine k_icmp_lt (tgt := 38) X dX5_nameFault_24 (by decide) ⟨h.1, ⟨by decide, by decide⟩, h.2⟩ (fun h => ?_) (fun h => ?_)
      · refine k_iload_n X dX5_nameFault_38 1 rfl ?_
        exact k_iret X hrt hlk dX5_nameFault_39 ⟨rfl, h⟩
      · refine k_aload_n X dX5_nameFault_27 0 rfl ?_
        refine k_getR (t := t + 1) X fk_X5_9 ht (by decide) rfl dX5_nameFault_28 ?_
        refine k_iload_n X dX5_nameFault_31 1 rfl ?_
        refine k_bald X (kc_5_0 ht) (klT_le ht) dX5_nameFault_32 h (fun h => ?_)
        refine k_bipush X dX5_nameFault_33 (by decide +kernel) ?_
        refine k_icmp_le (tgt := 40) X dX5_nameFault_35 (by decide) ⟨h.1, ⟨by decide, by decide⟩, h.2⟩ (fun h => ?_) (fun h => ?_)
        · refine k_iinc X dX5_nameFault_40 1 rfl h (fun v4 => [(1, kI v4), (0, .ref (ad t))]) (by decide) (fun _ => rfl) (fun v4 h => ?_)
          refine k_goto (tgt := 2) X dX5_nameFault_43 (by decide) ?_
          exact k_sub [1, 0] rfl h
        · refine k_iload_n X dX5_nameFault_38 1 rfl ?_
          exact k_iret X hrt hlk dX5_nameFault_39 ⟨rfl, h⟩
set_option maxHeartbeats 4000000 in
set_option maxRecDepth 100000 in
theorem ct_X5_putAll {l : Launch} {D : va_G} {cA : Nat → ClassId} {ad sa : Nat → Nat} (hj : kInj NC ad) (t : Nat) (ht : kdC t = (0, 5, 2)) (s1 : Nat) (hs1 : s1 < kstrL.length) (z : Hp) (Kp : Hp → Prop) (h : cal_X5_putAll t s1 z Kp) : kMet l yX5_putAll cX5_putAll 3 none 5 NC kdC D cA ad sa [.ref (ad t), .ref (sa s1)] z (kQv NC kdC D cA ad Kp) := by
  unfold cal_X5_putAll at h
  refine k_met (cc := cX5_putAll) (own := RX5) (nL := 3) rfl rfl (Nat.le_of_ble_eq_true rfl) hj kltC (fun p e s m below meth c X hrt hlk => ?_)
  refine k_sub (lv' := [(0, .ref (ad t)), (1, .ref (sa s1))]) [0, 1] rfl ?_
  refine k_iconst X dX5_putAll_0 ?_
  refine k_istore_n X dX5_putAll_1 h (fun v1 => [(2, kI v1), (0, .ref (ad t)), (1, .ref (sa s1))]) (by decide) (fun _ => rfl) (fun v1 h => ?_)
  refine k_sub (lv' := [(0, .ref (ad t)), (1, .ref (sa s1)), (2, kI v1)]) [1, 2, 0] rfl ?_
  refine h (fun v3 z4 => kAt p l e (kR 5) s m ([.ref (ad t), .ref (sa s1)] : List Value).toArray below meth c (MQ below (kQv NC kdC D cA ad Kp) ([.ref (ad t), .ref (sa s1)] : List Value).toArray s 0 0 (kA NC ad)) 3 NC kdC D cA ad 2 [(0, .ref (ad t)), (1, .ref (sa s1)), (2, kI v3)] [] z4) (fun v3 z4 h => ?_)
  refine k_iload_n X dX5_putAll_2 2 rfl ?_
  refine k_aload_n X dX5_putAll_3 1 rfl ?_
  refine k_slen X lk_X5_19 hs1 (kR_ok (by decide) (by decide)) (Nat.le_of_ble_eq_true rfl) dX5_putAll_4 ?_
  refine k_icmp_ge (tgt := 25) X dX5_putAll_7 (by decide) h (fun h => ?_) (fun h => ?_)
  · exact k_vret X hrt hlk dX5_putAll_25 h
  · refine k_aload_n X dX5_putAll_10 0 rfl ?_
    refine k_aload_n X dX5_putAll_11 1 rfl ?_
    refine k_iload_n X dX5_putAll_12 2 rfl ?_
    refine k_schar X lk_X5_24 hs1 (kR_ok (by decide) (by decide)) (Nat.le_of_ble_eq_true rfl) dX5_putAll_13 h (fun h => ?_)
    refine k_afterV (st := []) (fun H locs ls hP hS hl => k_runV (As := [kI ((kTx s1).getD v3.toNat 0)]) X lk_X5_28 rfl yo_X5_put rfl (kR_ok (by decide) (by decide)) (ct_X5_put (kCx_j X) t ht _ _ _ h) ht rfl (Nat.le_of_ble_eq_true rfl) dX5_putAll_16 hP hS hl) (fun z5 h => ?_)
    refine k_iinc X dX5_putAll_19 2 rfl h (fun v6 => [(2, kI v6), (0, .ref (ad t)), (1, .ref (sa s1))]) (by decide) (fun _ => rfl) (fun v6 h => ?_)
    refine k_goto (tgt := 2) X dX5_putAll_22 (by decide) ?_
    exact k_sub [1, 2, 0] rfl h
set_option maxHeartbeats 4000000 in
set_option maxRecDepth 100000 in
theorem ct_X5_wipe {l : Launch} {D : va_G} {cA : Nat → ClassId} {ad sa : Nat → Nat} (hj : kInj NC ad) (t : Nat) (ht : kdC t = (0, 5, 2)) (z : Hp) (Kp : Hp → Prop) (h : cal_X5_wipe t z Kp) : kMet l yX5_wipe cX5_wipe 1 none 0 NC kdC D cA ad sa [.ref (ad t)] z (kQv NC kdC D cA ad Kp) := by
  unfold cal_X5_wipe at h
  refine k_met (cc := cX5_wipe) (own := RX5) (nL := 1) rfl rfl (Nat.le_of_ble_eq_true rfl) hj kltC (fun p e s m below meth c X hrt hlk => ?_)
  refine k_sub (lv' := [(0, .ref (ad t))]) [0] rfl ?_
  refine k_aload_n X dX5_wipe_0 0 rfl ?_
  refine k_iconst X dX5_wipe_1 ?_
  refine k_putI X fp_X5_15 ht rfl dX5_wipe_2 (k_nameH h (fun z1 h => ?_))
  exact k_vret X hrt hlk dX5_wipe_5 h
set_option maxHeartbeats 4000000 in
set_option maxRecDepth 100000 in
theorem ct_X6_putBySex {l : Launch} {D : va_G} {cA : Nat → ClassId} {ad sa : Nat → Nat} (hj : kInj NC ad) (r1 : Nat) (hr1 : kdC r1 = (0, 5, 2)) (a2 : Int) (s3 : Nat) (hs3 : s3 < kstrL.length) (s4 : Nat) (hs4 : s4 < kstrL.length) (s5 : Nat) (hs5 : s5 < kstrL.length) (z : Hp) (Kp : Hp → Prop) (h : cal_X6_putBySex r1 a2 s3 s4 s5 z Kp) : kMet l yX6_putBySex cX6_putBySex 5 none 6 NC kdC D cA ad sa [.ref (ad r1), kI a2, .ref (sa s3), .ref (sa s4), .ref (sa s5)] z (kQv NC kdC D cA ad Kp) := by
  unfold cal_X6_putBySex at h
  refine k_met (cc := cX6_putBySex) (own := RX6) (nL := 5) rfl rfl (Nat.le_of_ble_eq_true rfl) hj kltC (fun p e s m below meth c X hrt hlk => ?_)
  refine k_sub (lv' := [(0, .ref (ad r1)), (1, kI a2), (2, .ref (sa s3)), (3, .ref (sa s4)), (4, .ref (sa s5))]) [0, 1, 2, 3, 4] rfl ?_
  refine k_aload_n X dX6_putBySex_0 0 rfl ?_
  refine k_iload_n X dX6_putBySex_1 1 rfl ?_
  refine k_iconst X dX6_putBySex_2 ?_
  refine k_icmp_ne (tgt := 10) X dX6_putBySex_3 (by decide) ⟨h.1, ⟨by decide, by decide⟩, h.2⟩ (fun h => ?_) (fun h => ?_)
  · refine k_iload_n X dX6_putBySex_10 1 rfl ?_
    refine k_iconst X dX6_putBySex_11 ?_
    refine k_icmp_ne (tgt := 19) X dX6_putBySex_12 (by decide) ⟨h.1, ⟨by decide, by decide⟩, h.2⟩ (fun h => ?_) (fun h => ?_)
    · refine k_aload X dX6_putBySex_19 4 rfl ?_
      refine k_afterV (st := []) (fun H locs ls hP hS hl => k_runV (As := [.ref (sa s5)]) X lk_X6_20 rfl yo_X5_putAll rfl (kR_ok (by decide) (by decide)) (ct_X5_putAll (kCx_j X) r1 hr1 s5 hs5 _ _ h) hr1 rfl (Nat.le_of_ble_eq_true rfl) dX6_putBySex_21 hP hS hl) (fun z1 h => ?_)
      exact k_vret X hrt hlk dX6_putBySex_24 h
    · refine k_aload_n X dX6_putBySex_15 3 rfl ?_
      refine k_goto (tgt := 21) X dX6_putBySex_16 (by decide) ?_
      refine k_afterV (st := []) (fun H locs ls hP hS hl => k_runV (As := [.ref (sa s4)]) X lk_X6_20 rfl yo_X5_putAll rfl (kR_ok (by decide) (by decide)) (ct_X5_putAll (kCx_j X) r1 hr1 s4 hs4 _ _ h) hr1 rfl (Nat.le_of_ble_eq_true rfl) dX6_putBySex_21 hP hS hl) (fun z2 h => ?_)
      exact k_vret X hrt hlk dX6_putBySex_24 h
  · refine k_aload_n X dX6_putBySex_6 2 rfl ?_
    refine k_goto (tgt := 21) X dX6_putBySex_7 (by decide) ?_
    refine k_afterV (st := []) (fun H locs ls hP hS hl => k_runV (As := [.ref (sa s3)]) X lk_X6_20 rfl yo_X5_putAll rfl (kR_ok (by decide) (by decide)) (ct_X5_putAll (kCx_j X) r1 hr1 s3 hs3 _ _ h) hr1 rfl (Nat.le_of_ble_eq_true rfl) dX6_putBySex_21 hP hS hl) (fun z3 h => ?_)
    exact k_vret X hrt hlk dX6_putBySex_24 h
set_option maxHeartbeats 4000000 in
set_option maxRecDepth 100000 in
theorem ct_X6_putCousin {l : Launch} {D : va_G} {cA : Nat → ClassId} {ad sa : Nat → Nat} (hj : kInj NC ad) (r1 : Nat) (hr1 : kdC r1 = (0, 5, 2)) (a2 : Int) (a3 : Int) (z : Hp) (Kp : Hp → Prop) (h : cal_X6_putCousin r1 a2 a3 z Kp) : kMet l yX6_putCousin cX6_putCousin 3 none 6 NC kdC D cA ad sa [.ref (ad r1), kI a2, kI a3] z (kQv NC kdC D cA ad Kp) := by
  unfold cal_X6_putCousin at h
  refine k_met (cc := cX6_putCousin) (own := RX6) (nL := 3) rfl rfl (Nat.le_of_ble_eq_true rfl) hj kltC (fun p e s m below meth c X hrt hlk => ?_)
  refine k_sub (lv' := [(0, .ref (ad r1)), (1, kI a2), (2, kI a3)]) [0, 1, 2] rfl ?_
  refine k_aload_n X dX6_putCousin_0 0 rfl ?_
  refine k_ldcS X (k := 18) (by decide) rfl rfl dX6_putCousin_1 ?_
  refine k_afterV (st := []) (fun H locs ls hP hS hl => k_runV (As := [.ref (sa 18)]) X lk_X6_20 rfl yo_X5_putAll rfl (kR_ok (by decide) (by decide)) (ct_X5_putAll (kCx_j X) r1 hr1 18 (by decide) _ _ h) hr1 rfl (Nat.le_of_ble_eq_true rfl) dX6_putCousin_3 hP hS hl) (fun z1 h => ?_)
  refine k_aload_n X dX6_putCousin_6 0 rfl ?_
  refine k_iload_n X dX6_putCousin_7 1 rfl ?_
  refine k_iload_n X dX6_putCousin_8 2 rfl ?_
  refine k_mmin X mw751 mw450 mw11 mw451 (kR_one (by decide)) (Nat.le_of_ble_eq_true rfl) dX6_putCousin_9 h (fun h => ?_)
  refine k_iconst X dX6_putCousin_12 ?_
  refine k_isub X dX6_putCousin_13 ?_
  refine k_afterV (st := []) (fun H locs ls hP hS hl => k_runV (As := [kI ((if a3 < a2 then a3 else a2) - 1)]) X lk_X6_82 rfl yo_X5_putNumber rfl (kR_ok (by decide) (by decide)) (ct_X5_putNumber (kCx_j X) r1 hr1 _ _ _ h) hr1 rfl (Nat.le_of_ble_eq_true rfl) dX6_putCousin_14 hP hS hl) (fun z2 h => ?_)
  refine k_iload_n X dX6_putCousin_17 1 rfl ?_
  refine k_iload_n X dX6_putCousin_18 2 rfl ?_
  refine k_icmp_eq (tgt := 38) X dX6_putCousin_19 (by decide) h (fun h => ?_) (fun h => ?_)
  · exact k_vret X hrt hlk dX6_putCousin_38 h
  · refine k_aload_n X dX6_putCousin_22 0 rfl ?_
    refine k_bipush X dX6_putCousin_23 (by decide +kernel) ?_
    refine k_afterV (st := []) (fun H locs ls hP hS hl => k_runV (As := [kI 47]) X lk_X6_86 rfl yo_X5_put rfl (kR_ok (by decide) (by decide)) (ct_X5_put (kCx_j X) r1 hr1 _ _ _ h) hr1 rfl (Nat.le_of_ble_eq_true rfl) dX6_putCousin_25 hP hS hl) (fun z3 h => ?_)
    refine k_aload_n X dX6_putCousin_28 0 rfl ?_
    refine k_iload_n X dX6_putCousin_29 1 rfl ?_
    refine k_iload_n X dX6_putCousin_30 2 rfl ?_
    refine k_isub X dX6_putCousin_31 ?_
    refine k_mabs X mw754 mw755 mw11 mw756 (kR_one (by decide)) (Nat.le_of_ble_eq_true rfl) dX6_putCousin_32 h (fun h => ?_)
    refine k_afterV (st := []) (fun H locs ls hP hS hl => k_runV (As := [kI (if 0 ≤ (a2 - a3) then (a2 - a3) else 0 - (a2 - a3))]) X lk_X6_82 rfl yo_X5_putNumber rfl (kR_ok (by decide) (by decide)) (ct_X5_putNumber (kCx_j X) r1 hr1 _ _ _ h) hr1 rfl (Nat.le_of_ble_eq_true rfl) dX6_putCousin_35 hP hS hl) (fun z4 h => ?_)
    exact k_vret X hrt hlk dX6_putCousin_38 h
set_option maxHeartbeats 4000000 in
set_option maxRecDepth 100000 in
theorem ct_X6_putGrand {l : Launch} {D : va_G} {cA : Nat → ClassId} {ad sa : Nat → Nat} (hj : kInj NC ad) (r1 : Nat) (hr1 : kdC r1 = (0, 5, 2)) (a2 : Int) (z : Hp) (Kp : Hp → Prop) (h : cal_X6_putGrand r1 a2 z Kp) : kMet l yX6_putGrand cX6_putGrand 3 none 6 NC kdC D cA ad sa [.ref (ad r1), kI a2] z (kQv NC kdC D cA ad Kp) := by
  unfold cal_X6_putGrand at h
  refine k_met (cc := cX6_putGrand) (own := RX6) (nL := 3) rfl rfl (Nat.le_of_ble_eq_true rfl) hj kltC (fun p e s m below meth c X hrt hlk => ?_)
  refine k_sub (lv' := [(0, .ref (ad r1)), (1, kI a2)]) [0, 1] rfl ?_
  refine k_iconst X dX6_putGrand_0 ?_
  refine k_istore_n X dX6_putGrand_1 h (fun v1 => [(2, kI v1), (0, .ref (ad r1)), (1, kI a2)]) (by decide) (fun _ => rfl) (fun v1 h => ?_)
  refine k_sub (lv' := [(0, .ref (ad r1)), (1, kI a2), (2, kI v1)]) [1, 2, 0] rfl ?_
  refine h (fun v3 z4 => kAt p l e (kR 6) s m ([.ref (ad r1), kI a2] : List Value).toArray below meth c (MQ below (kQv NC kdC D cA ad Kp) ([.ref (ad r1), kI a2] : List Value).toArray s 0 0 (kA NC ad)) 3 NC kdC D cA ad 2 [(0, .ref (ad r1)), (1, kI a2), (2, kI v3)] [] z4) (fun v3 z4 h => ?_)
  refine k_iload_n X dX6_putGrand_2 2 rfl ?_
  refine k_iload_n X dX6_putGrand_3 1 rfl ?_
  refine k_icmp_ge (tgt := 25) X dX6_putGrand_4 (by decide) h (fun h => ?_) (fun h => ?_)
  · exact k_vret X hrt hlk dX6_putGrand_25 h
  · refine k_iload_n X dX6_putGrand_7 2 rfl ?_
    refine k_bipush X dX6_putGrand_8 (by decide +kernel) ?_
    refine k_icmp_ge (tgt := 25) X dX6_putGrand_10 (by decide) ⟨h.1, ⟨by decide, by decide⟩, h.2⟩ (fun h => ?_) (fun h => ?_)
    · exact k_vret X hrt hlk dX6_putGrand_25 h
    · refine k_aload_n X dX6_putGrand_13 0 rfl ?_
      refine k_ldcS X (k := 2) (by decide) rfl rfl dX6_putGrand_14 ?_
      refine k_afterV (st := []) (fun H locs ls hP hS hl => k_runV (As := [.ref (sa 2)]) X lk_X6_20 rfl yo_X5_putAll rfl (kR_ok (by decide) (by decide)) (ct_X5_putAll (kCx_j X) r1 hr1 2 (by decide) _ _ h) hr1 rfl (Nat.le_of_ble_eq_true rfl) dX6_putGrand_16 hP hS hl) (fun z5 h => ?_)
      refine k_iinc X dX6_putGrand_19 2 rfl h (fun v6 => [(2, kI v6), (0, .ref (ad r1)), (1, kI a2)]) (by decide) (fun _ => rfl) (fun v6 h => ?_)
      refine k_goto (tgt := 2) X dX6_putGrand_22 (by decide) ?_
      exact k_sub [1, 2, 0] rfl h
set_option maxHeartbeats 4000000 in
set_option maxRecDepth 100000 in
theorem ct_X6_putKin {l : Launch} {D : va_G} {cA : Nat → ClassId} {ad sa : Nat → Nat} (hj : kInj NC ad) (r1 : Nat) (hr1 : kdC r1 = (0, 5, 2)) (r2 : Nat) (hr2 : kdC r2 = (0, 6, 5)) (a3 : Int) (a4 : Int) (z : Hp) (Kp : Hp → Prop) (h : cal_X6_putKin r1 r2 a3 a4 z Kp) : kMet l yX6_putKin cX6_putKin 6 none 7 NC kdC D cA ad sa [.ref (ad r1), .ref (ad r2), kI a3, kI a4] z (kQv NC kdC D cA ad Kp) := by
  unfold cal_X6_putKin at h
  refine k_met (cc := cX6_putKin) (own := RX6) (nL := 6) rfl rfl (Nat.le_of_ble_eq_true rfl) hj kltC (fun p e s m below meth c X hrt hlk => ?_)
  refine k_sub (lv' := [(0, .ref (ad r1)), (1, .ref (ad r2)), (2, kI a3), (3, kI a4)]) [0, 1, 2, 3] rfl ?_
  refine k_aload_n X dX6_putKin_0 1 rfl ?_
  refine k_getI X fk_X6_9 hr2 rfl dX6_putKin_1 ?_
  refine k_istore X dX6_putKin_4 h (fun v1 => [(4, kI v1), (0, .ref (ad r1)), (1, .ref (ad r2)), (2, kI a3), (3, kI a4)]) (by decide) (fun _ => rfl) (fun v1 h => ?_)
  refine k_aload_n X dX6_putKin_6 2 rfl ?_
  refine k_getI X fk_X6_15 hr2 rfl dX6_putKin_7 ?_
  refine k_istore X dX6_putKin_10 h (fun v2 => [(5, kI v2), (4, kI v1), (0, .ref (ad r1)), (1, .ref (ad r2)), (2, kI a3), (3, kI a4)]) (by decide) (fun _ => rfl) (fun v2 h => ?_)
  refine k_iload_n X dX6_putKin_12 4 rfl ?_
  refine jn_use (fun J3 => ∀ (z4 : Hp), J3 z4 → kAt p l e (kR 7) s m ([.ref (ad r1), .ref (ad r2), kI a3, kI a4] : List Value).toArray below meth c (MQ below (kQv NC kdC D cA ad Kp) ([.ref (ad r1), .ref (ad r2), kI a3, kI a4] : List Value).toArray s 0 0 (kA NC ad)) 6 NC kdC D cA ad 22 [(0, .ref (ad r1)), (3, kI a4), (4, kI v1), (5, kI v2)] [] z4) h ?_ (fun J3 hJ3 h => ?_)
  · intro z4 h
    refine k_iload X dX6_putKin_22 2 rfl ?_
    refine jn_use (fun J5 => ∀ (z6 : Hp), J5 z6 → kAt p l e (kR 7) s m ([.ref (ad r1), .ref (ad r2), kI a3, kI a4] : List Value).toArray below meth c (MQ below (kQv NC kdC D cA ad Kp) ([.ref (ad r1), .ref (ad r2), kI a3, kI a4] : List Value).toArray s 0 0 (kA NC ad)) 6 NC kdC D cA ad 41 [(0, .ref (ad r1)), (3, kI a4), (4, kI v1), (5, kI v2)] [] z6) h ?_ (fun J5 hJ5 h => ?_)
    · intro z6 h
      refine k_iload X dX6_putKin_41 2 rfl ?_
      refine k_if_ne (tgt := 68) X dX6_putKin_43 (by decide) h (fun h => ?_) (fun h => ?_)
      · refine k_iload X dX6_putKin_68 3 rfl ?_
        refine k_if_ne (tgt := 95) X dX6_putKin_70 (by decide) h (fun h => ?_) (fun h => ?_)
        · refine k_iload X dX6_putKin_95 2 rfl ?_
          refine k_iconst X dX6_putKin_97 ?_
          refine jn_use (fun J7 => ∀ (z8 : Hp), J7 z8 → kAt p l e (kR 7) s m ([.ref (ad r1), .ref (ad r2), kI a3, kI a4] : List Value).toArray below meth c (MQ below (kQv NC kdC D cA ad Kp) ([.ref (ad r1), .ref (ad r2), kI a3, kI a4] : List Value).toArray s 0 0 (kA NC ad)) 6 NC kdC D cA ad 121 [(0, .ref (ad r1)), (3, kI a4), (4, kI v1), (5, kI v2)] [] z8) h ?_ (fun J7 hJ7 h => ?_)
          · intro z8 h
            refine k_iload X dX6_putKin_121 2 rfl ?_
            refine k_iconst X dX6_putKin_123 ?_
            refine k_icmp_ne (tgt := 149) X dX6_putKin_124 (by decide) ⟨h.1, ⟨by decide, by decide⟩, h.2⟩ (fun h => ?_) (fun h => ?_)
            · refine k_iload X dX6_putKin_149 3 rfl ?_
              refine k_iconst X dX6_putKin_151 ?_
              refine k_icmp_ne (tgt := 177) X dX6_putKin_152 (by decide) ⟨h.1, ⟨by decide, by decide⟩, h.2⟩ (fun h => ?_) (fun h => ?_)
              · refine k_aload_n X dX6_putKin_177 0 rfl ?_
                refine k_iload X dX6_putKin_178 2 rfl ?_
                refine k_iload X dX6_putKin_180 3 rfl ?_
                refine k_afterV (st := []) (fun H locs ls hP hS hl => k_runS (As := [.ref (ad r1), kI v1, kI v2]) X lk_X6_68 yo_X6_putCousin rfl (kR_ok (by decide) (by decide)) (ct_X6_putCousin (kCx_j X) r1 hr1 _ _ _ _ h) (Nat.le_of_ble_eq_true rfl) dX6_putKin_182 hP hS hl) (fun z9 h => ?_)
                exact k_vret X hrt hlk dX6_putKin_185 h
              · refine k_aload_n X dX6_putKin_155 0 rfl ?_
                refine k_iload X dX6_putKin_156 2 rfl ?_
                refine k_iconst X dX6_putKin_158 ?_
                refine k_isub X dX6_putKin_159 ?_
                refine k_afterV (st := []) (fun H locs ls hP hS hl => k_runS (As := [.ref (ad r1), kI (v1 - 2)]) X lk_X6_28 yo_X6_putGrand rfl (kR_ok (by decide) (by decide)) (ct_X6_putGrand (kCx_j X) r1 hr1 _ _ _ h) (Nat.le_of_ble_eq_true rfl) dX6_putKin_160 hP hS hl) (fun z10 h => ?_)
                refine k_aload_n X dX6_putKin_163 0 rfl ?_
                refine k_iload_n X dX6_putKin_164 1 rfl ?_
                refine k_ldcS X (k := 15) (by decide) rfl rfl dX6_putKin_165 ?_
                refine k_ldcS X (k := 16) (by decide) rfl rfl dX6_putKin_167 ?_
                refine k_ldcS X (k := 17) (by decide) rfl rfl dX6_putKin_169 ?_
                refine k_afterV (st := []) (fun H locs ls hP hS hl => k_runS (As := [.ref (ad r1), kI a4, .ref (sa 15), .ref (sa 16), .ref (sa 17)]) X lk_X6_40 yo_X6_putBySex rfl (kR_ok (by decide) (by decide)) (ct_X6_putBySex (kCx_j X) r1 hr1 _ 15 (by decide) 16 (by decide) 17 (by decide) _ _ h) (Nat.le_of_ble_eq_true rfl) dX6_putKin_171 hP hS hl) (fun z11 h => ?_)
                refine k_goto (tgt := 185) X dX6_putKin_174 (by decide) ?_
                exact k_vret X hrt hlk dX6_putKin_185 h
            · refine k_aload_n X dX6_putKin_127 0 rfl ?_
              refine k_iload X dX6_putKin_128 3 rfl ?_
              refine k_iconst X dX6_putKin_130 ?_
              refine k_isub X dX6_putKin_131 ?_
              refine k_afterV (st := []) (fun H locs ls hP hS hl => k_runS (As := [.ref (ad r1), kI (v2 - 2)]) X lk_X6_28 yo_X6_putGrand rfl (kR_ok (by decide) (by decide)) (ct_X6_putGrand (kCx_j X) r1 hr1 _ _ _ h) (Nat.le_of_ble_eq_true rfl) dX6_putKin_132 hP hS hl) (fun z12 h => ?_)
              refine k_aload_n X dX6_putKin_135 0 rfl ?_
              refine k_iload_n X dX6_putKin_136 1 rfl ?_
              refine k_ldcS X (k := 12) (by decide) rfl rfl dX6_putKin_137 ?_
              refine k_ldcS X (k := 13) (by decide) rfl rfl dX6_putKin_139 ?_
              refine k_ldcS X (k := 14) (by decide) rfl rfl dX6_putKin_141 ?_
              refine k_afterV (st := []) (fun H locs ls hP hS hl => k_runS (As := [.ref (ad r1), kI a4, .ref (sa 12), .ref (sa 13), .ref (sa 14)]) X lk_X6_40 yo_X6_putBySex rfl (kR_ok (by decide) (by decide)) (ct_X6_putBySex (kCx_j X) r1 hr1 _ 12 (by decide) 13 (by decide) 14 (by decide) _ _ h) (Nat.le_of_ble_eq_true rfl) dX6_putKin_143 hP hS hl) (fun z13 h => ?_)
              refine k_goto (tgt := 185) X dX6_putKin_146 (by decide) ?_
              exact k_vret X hrt hlk dX6_putKin_185 h
          · refine k_icmp_ne (tgt := 121) X dX6_putKin_98 (by decide) ⟨h.1, ⟨by decide, by decide⟩, h.2⟩ (fun h => ?_) (fun h => ?_)
            · exact k_sub [0, 1, 2, 3] rfl (hJ7 _ h)
            · refine k_iload X dX6_putKin_101 3 rfl ?_
              refine k_iconst X dX6_putKin_103 ?_
              refine k_icmp_ne (tgt := 121) X dX6_putKin_104 (by decide) ⟨h.1, ⟨by decide, by decide⟩, h.2⟩ (fun h => ?_) (fun h => ?_)
              · exact k_sub [0, 1, 2, 3] rfl (hJ7 _ h)
              · refine k_aload_n X dX6_putKin_107 0 rfl ?_
                refine k_iload_n X dX6_putKin_108 1 rfl ?_
                refine k_ldcS X (k := 9) (by decide) rfl rfl dX6_putKin_109 ?_
                refine k_ldcS X (k := 10) (by decide) rfl rfl dX6_putKin_111 ?_
                refine k_ldcS X (k := 11) (by decide) rfl rfl dX6_putKin_113 ?_
                refine k_afterV (st := []) (fun H locs ls hP hS hl => k_runS (As := [.ref (ad r1), kI a4, .ref (sa 9), .ref (sa 10), .ref (sa 11)]) X lk_X6_40 yo_X6_putBySex rfl (kR_ok (by decide) (by decide)) (ct_X6_putBySex (kCx_j X) r1 hr1 _ 9 (by decide) 10 (by decide) 11 (by decide) _ _ h) (Nat.le_of_ble_eq_true rfl) dX6_putKin_115 hP hS hl) (fun z14 h => ?_)
                refine k_goto (tgt := 185) X dX6_putKin_118 (by decide) ?_
                exact k_vret X hrt hlk dX6_putKin_185 h
        · refine k_aload_n X dX6_putKin_73 0 rfl ?_
          refine k_iload X dX6_putKin_74 2 rfl ?_
          refine k_iconst X dX6_putKin_76 ?_
          refine k_isub X dX6_putKin_77 ?_
          refine k_afterV (st := []) (fun H locs ls hP hS hl => k_runS (As := [.ref (ad r1), kI (v1 - 1)]) X lk_X6_28 yo_X6_putGrand rfl (kR_ok (by decide) (by decide)) (ct_X6_putGrand (kCx_j X) r1 hr1 _ _ _ h) (Nat.le_of_ble_eq_true rfl) dX6_putKin_78 hP hS hl) (fun z15 h => ?_)
          refine k_aload_n X dX6_putKin_81 0 rfl ?_
          refine k_iload_n X dX6_putKin_82 1 rfl ?_
          refine k_ldcS X (k := 6) (by decide) rfl rfl dX6_putKin_83 ?_
          refine k_ldcS X (k := 7) (by decide) rfl rfl dX6_putKin_85 ?_
          refine k_ldcS X (k := 8) (by decide) rfl rfl dX6_putKin_87 ?_
          refine k_afterV (st := []) (fun H locs ls hP hS hl => k_runS (As := [.ref (ad r1), kI a4, .ref (sa 6), .ref (sa 7), .ref (sa 8)]) X lk_X6_40 yo_X6_putBySex rfl (kR_ok (by decide) (by decide)) (ct_X6_putBySex (kCx_j X) r1 hr1 _ 6 (by decide) 7 (by decide) 8 (by decide) _ _ h) (Nat.le_of_ble_eq_true rfl) dX6_putKin_89 hP hS hl) (fun z16 h => ?_)
          refine k_goto (tgt := 185) X dX6_putKin_92 (by decide) ?_
          exact k_vret X hrt hlk dX6_putKin_185 h
      · refine k_aload_n X dX6_putKin_46 0 rfl ?_
        refine k_iload X dX6_putKin_47 3 rfl ?_
        refine k_iconst X dX6_putKin_49 ?_
        refine k_isub X dX6_putKin_50 ?_
        refine k_afterV (st := []) (fun H locs ls hP hS hl => k_runS (As := [.ref (ad r1), kI (v2 - 1)]) X lk_X6_28 yo_X6_putGrand rfl (kR_ok (by decide) (by decide)) (ct_X6_putGrand (kCx_j X) r1 hr1 _ _ _ h) (Nat.le_of_ble_eq_true rfl) dX6_putKin_51 hP hS hl) (fun z17 h => ?_)
        refine k_aload_n X dX6_putKin_54 0 rfl ?_
        refine k_iload_n X dX6_putKin_55 1 rfl ?_
        refine k_ldcS X (k := 3) (by decide) rfl rfl dX6_putKin_56 ?_
        refine k_ldcS X (k := 4) (by decide) rfl rfl dX6_putKin_58 ?_
        refine k_ldcS X (k := 5) (by decide) rfl rfl dX6_putKin_60 ?_
        refine k_afterV (st := []) (fun H locs ls hP hS hl => k_runS (As := [.ref (ad r1), kI a4, .ref (sa 3), .ref (sa 4), .ref (sa 5)]) X lk_X6_40 yo_X6_putBySex rfl (kR_ok (by decide) (by decide)) (ct_X6_putBySex (kCx_j X) r1 hr1 _ 3 (by decide) 4 (by decide) 5 (by decide) _ _ h) (Nat.le_of_ble_eq_true rfl) dX6_putKin_62 hP hS hl) (fun z18 h => ?_)
        refine k_goto (tgt := 185) X dX6_putKin_65 (by decide) ?_
        exact k_vret X hrt hlk dX6_putKin_185 h
    · refine k_if_ne (tgt := 41) X dX6_putKin_24 (by decide) h (fun h => ?_) (fun h => ?_)
      · exact k_sub [0, 1, 2, 3] rfl (hJ5 _ h)
      · refine k_iload X dX6_putKin_27 3 rfl ?_
        refine k_if_ne (tgt := 41) X dX6_putKin_29 (by decide) h (fun h => ?_) (fun h => ?_)
        · exact k_sub [0, 1, 2, 3] rfl (hJ5 _ h)
        · refine k_aload_n X dX6_putKin_32 0 rfl ?_
          refine k_ldcS X (k := 1) (by decide) rfl rfl dX6_putKin_33 ?_
          refine k_afterV (st := []) (fun H locs ls hP hS hl => k_runV (As := [.ref (sa 1)]) X lk_X6_20 rfl yo_X5_putAll rfl (kR_ok (by decide) (by decide)) (ct_X5_putAll (kCx_j X) r1 hr1 1 (by decide) _ _ h) hr1 rfl (Nat.le_of_ble_eq_true rfl) dX6_putKin_35 hP hS hl) (fun z19 h => ?_)
          refine k_goto (tgt := 185) X dX6_putKin_38 (by decide) ?_
          exact k_vret X hrt hlk dX6_putKin_185 h
  · refine k_if_eq (tgt := 22) X dX6_putKin_13 (by decide) h (fun h => ?_) (fun h => ?_)
    · exact k_sub [2, 5, 1, 0] rfl (hJ3 _ h)
    · refine k_aload_n X dX6_putKin_16 2 rfl ?_
      refine k_ldcS X (k := 0) (by decide) rfl rfl dX6_putKin_17 ?_
      refine k_afterV (st := []) (fun H locs ls hP hS hl => k_runV (As := [.ref (sa 0)]) X lk_X6_20 rfl yo_X5_putAll rfl (kR_ok (by decide) (by decide)) (ct_X5_putAll (kCx_j X) r1 hr1 0 (by decide) _ _ h) hr1 rfl (Nat.le_of_ble_eq_true rfl) dX6_putKin_19 hP hS hl) (fun z20 h => ?_)
      exact k_sub [2, 5, 1, 0] rfl (hJ3 _ h)
set_option maxHeartbeats 4000000 in
set_option maxRecDepth 100000 in
theorem ct_X7_count {l : Launch} {D : va_G} {cA : Nat → ClassId} {ad sa : Nat → Nat} (hj : kInj NC ad) (r1 : Nat) (hr1 : kdC r1 = (0, 1, 13)) (a2 : Int) (r3 : Nat) (hr3 : kdC r3 = (1, 30, 0)) (z : Hp) (Kp : Hp → Prop) (h : cal_X7_count r1 a2 r3 z Kp) : kMet l yX7_count cX7_count 7 none 1 NC kdC D cA ad sa [.ref (ad r1), kI a2, .ref (ad r3)] z (kQv NC kdC D cA ad Kp) := by
  unfold cal_X7_count at h
  refine k_met (cc := cX7_count) (own := RX7) (nL := 7) rfl rfl (Nat.le_of_ble_eq_true rfl) hj kltC (fun p e s m below meth c X hrt hlk => ?_)
  refine k_sub (lv' := [(0, .ref (ad r1)), (1, kI a2), (2, .ref (ad r3))]) [0, 1, 2] rfl ?_
  refine k_iconst X dX7_count_0 ?_
  refine k_istore_n X dX7_count_1 h (fun v1 => [(3, kI v1), (0, .ref (ad r1)), (1, kI a2), (2, .ref (ad r3))]) (by decide) (fun _ => rfl) (fun v1 h => ?_)
  refine k_sub (lv' := [(0, .ref (ad r1)), (1, kI a2), (2, .ref (ad r3)), (3, kI v1)]) [1, 2, 3, 0] rfl ?_
  refine h (fun v3 z4 => kAt p l e (kR 1) s m ([.ref (ad r1), kI a2, .ref (ad r3)] : List Value).toArray below meth c (MQ below (kQv NC kdC D cA ad Kp) ([.ref (ad r1), kI a2, .ref (ad r3)] : List Value).toArray s 0 0 (kA NC ad)) 7 NC kdC D cA ad 2 [(0, .ref (ad r1)), (1, kI a2), (2, .ref (ad r3)), (3, kI v3)] [] z4) (fun v3 z4 h => ?_)
  refine k_iload_n X dX7_count_2 3 rfl ?_
  refine k_bipush X dX7_count_3 (by decide +kernel) ?_
  refine k_icmp_ge (tgt := 18) X dX7_count_5 (by decide) ⟨h.1, ⟨by decide, by decide⟩, h.2⟩ (fun h => ?_) (fun h => ?_)
  · refine k_iconst X dX7_count_18 ?_
    refine k_iload_n X dX7_count_19 1 rfl ?_
    refine k_ishl X dX7_count_20 ?_
    refine k_istore_n X dX7_count_21 h (fun v5 => [(3, kI v5), (0, .ref (ad r1)), (1, kI a2), (2, .ref (ad r3))]) (by decide) (fun _ => rfl) (fun v5 h => ?_)
    refine k_iconst X dX7_count_22 ?_
    refine k_istore X dX7_count_23 h (fun v6 => [(4, kI v6), (3, kI v5), (0, .ref (ad r1)), (1, kI a2), (2, .ref (ad r3))]) (by decide) (fun _ => rfl) (fun v6 h => ?_)
    refine k_sub (lv' := [(0, .ref (ad r1)), (2, .ref (ad r3)), (3, kI v5), (4, kI v6)]) [2, 4, 1, 0] rfl ?_
    refine h (fun v8 v9 z10 => kAt p l e (kR 1) s m ([.ref (ad r1), kI a2, .ref (ad r3)] : List Value).toArray below meth c (MQ below (kQv NC kdC D cA ad Kp) ([.ref (ad r1), kI a2, .ref (ad r3)] : List Value).toArray s 0 0 (kA NC ad)) 7 NC kdC D cA ad 25 [(0, .ref (ad r1)), (2, .ref (ad r3)), (3, kI v8), (4, kI v9)] [] z10) (fun v8 v9 z10 h => ?_)
    refine k_iload X dX7_count_25 3 rfl ?_
    refine k_bipush X dX7_count_27 (by decide +kernel) ?_
    refine k_icmp_ge (tgt := 98) X dX7_count_29 (by decide) ⟨h.1, ⟨by decide, by decide⟩, h.2⟩ (fun h => ?_) (fun h => ?_)
    · exact k_vret X hrt hlk dX7_count_98 h
    · refine k_iload_n X dX7_count_32 2 rfl ?_
      refine k_if_eq (tgt := 98) X dX7_count_33 (by decide) h (fun h => ?_) (fun h => ?_)
      · exact k_vret X hrt hlk dX7_count_98 h
      · refine k_iconst X dX7_count_36 ?_
        refine k_istore X dX7_count_37 h (fun v11 => [(5, kI v11), (0, .ref (ad r1)), (2, .ref (ad r3)), (3, kI v8), (4, kI v9)]) (by decide) (fun _ => rfl) (fun v11 h => ?_)
        refine k_iconst X dX7_count_39 ?_
        refine k_istore X dX7_count_40 h (fun v12 => [(6, kI v12), (5, kI v11), (0, .ref (ad r1)), (2, .ref (ad r3)), (3, kI v8), (4, kI v9)]) (by decide) (fun _ => rfl) (fun v12 h => ?_)
        refine k_sub (lv' := [(0, .ref (ad r1)), (2, .ref (ad r3)), (3, kI v8), (4, kI v9), (5, kI v11), (6, kI v12)]) [2, 3, 4, 5, 1, 0] rfl ?_
        refine h (fun v14 v15 z16 => kAt p l e (kR 1) s m ([.ref (ad r1), kI a2, .ref (ad r3)] : List Value).toArray below meth c (MQ below (kQv NC kdC D cA ad Kp) ([.ref (ad r1), kI a2, .ref (ad r3)] : List Value).toArray s 0 0 (kA NC ad)) 7 NC kdC D cA ad 42 [(0, .ref (ad r1)), (2, .ref (ad r3)), (3, kI v8), (4, kI v9), (5, kI v14), (6, kI v15)] [] z16) (fun v14 v15 z16 h => ?_)
        refine k_iload X dX7_count_42 5 rfl ?_
        refine k_bipush X dX7_count_44 (by decide +kernel) ?_
        refine k_icmp_ge (tgt := 89) X dX7_count_46 (by decide) ⟨h.1, ⟨by decide, by decide⟩, h.2⟩ (fun h => ?_) (fun h => ?_)
        · refine k_iload X dX7_count_89 4 rfl ?_
          refine k_istore_n X dX7_count_91 h (fun v17 => [(3, kI v17), (0, .ref (ad r1)), (2, .ref (ad r3)), (4, kI v9), (5, kI v14), (6, kI v15)]) (by decide) (fun _ => rfl) (fun v17 h => ?_)
          refine k_iinc X dX7_count_92 3 rfl h (fun v18 => [(4, kI v18), (3, kI v17), (0, .ref (ad r1)), (2, .ref (ad r3)), (5, kI v14), (6, kI v15)]) (by decide) (fun _ => rfl) (fun v18 h => ?_)
          refine k_goto (tgt := 25) X dX7_count_95 (by decide) ?_
          exact k_sub [2, 3, 1, 0] rfl h
        · refine k_iload_n X dX7_count_49 2 rfl ?_
          refine k_iload X dX7_count_50 5 rfl ?_
          refine k_afterP (st := []) (fun H locs ls hP hS hl => k_runS (As := [kI v8, kI v15]) X lk_X7_36 yo_X1_has rfl (kR_ok (by decide) (by decide)) (ct_X1_has (kCx_j X) _ _ _ _ h) (Nat.le_of_ble_eq_true rfl) dX7_count_52 hP hS hl) (fun v19 h => ?_)
          refine jn_use (fun J21 => ∀ (v20 : Int) (z22 : Hp), J21 v20 z22 → kAt p l e (kR 1) s m ([.ref (ad r1), kI a2, .ref (ad r3)] : List Value).toArray below meth c (MQ below (kQv NC kdC D cA ad Kp) ([.ref (ad r1), kI a2, .ref (ad r3)] : List Value).toArray s 0 0 (kA NC ad)) 7 NC kdC D cA ad 83 [(0, .ref (ad r1)), (2, .ref (ad r3)), (3, kI v8), (4, kI v9), (5, kI v20), (6, kI v15)] [] z22) h ?_ (fun J21 hJ21 h => ?_)
          · intro v20 z22 h
            refine k_iinc X dX7_count_83 5 rfl h (fun v23 => [(6, kI v23), (0, .ref (ad r1)), (2, .ref (ad r3)), (3, kI v8), (4, kI v9), (5, kI v20)]) (by decide) (fun _ => rfl) (fun v23 h => ?_)
            refine k_goto (tgt := 42) X dX7_count_86 (by decide) ?_
            exact k_sub [1, 2, 3, 4, 5, 0] rfl h
          · refine k_if_eq (tgt := 83) X dX7_count_55 (by decide) h (fun h => ?_) (fun h => ?_)
            · exact k_sub [0, 1, 2, 3, 4, 5] rfl (hJ21 _ _ h)
            · refine k_aload_n X dX7_count_58 1 rfl ?_
              refine k_iload X dX7_count_59 5 rfl ?_
              refine k_iald X hr3 (Nat.le_of_ble_eq_true rfl) dX7_count_61 h (fun h => ?_)
              refine k_if_ge (tgt := 83) X dX7_count_62 (by decide) h (fun h => ?_) (fun h => ?_)
              · exact k_sub [0, 1, 2, 3, 4, 5] rfl (hJ21 _ _ h)
              · refine k_aload_n X dX7_count_65 1 rfl ?_
                refine k_iload X dX7_count_66 5 rfl ?_
                refine k_iload X dX7_count_68 3 rfl ?_
                refine k_iast X hr3 (Nat.le_of_ble_eq_true rfl) dX7_count_70 h (fun h => k_nameH h (fun z24 h => ?_))
                refine k_iload X dX7_count_71 4 rfl ?_
                refine k_aload_n X dX7_count_73 0 rfl ?_
                refine k_getR (t := r1 + 6) X fk_X7_42 hr1 (by decide) rfl dX7_count_74 ?_
                refine k_iload X dX7_count_77 5 rfl ?_
                refine k_iald X (kc_1_7 hr1) (Nat.le_of_ble_eq_true rfl) dX7_count_79 h (fun h => ?_)
                refine k_ior X dX7_count_80 ?_
                refine k_istore X dX7_count_81 h (fun v25 => [(5, kI v25), (0, .ref (ad r1)), (2, .ref (ad r3)), (3, kI v8), (4, kI v9), (6, kI v15)]) (by decide) (fun _ => rfl) (fun v25 h => ?_)
                exact k_sub [1, 2, 3, 4, 0, 5] rfl (hJ21 _ _ h)
  · refine k_aload_n X dX7_count_8 2 rfl ?_
    refine k_iload_n X dX7_count_9 3 rfl ?_
    refine k_iconst X dX7_count_10 ?_
    refine k_iast X hr3 (Nat.le_of_ble_eq_true rfl) dX7_count_11 h (fun h => k_nameH h (fun z26 h => ?_))
    refine k_iinc X dX7_count_12 3 rfl h (fun v27 => [(3, kI v27), (0, .ref (ad r1)), (1, kI a2), (2, .ref (ad r3))]) (by decide) (fun _ => rfl) (fun v27 h => ?_)
    refine k_goto (tgt := 2) X dX7_count_15 (by decide) ?_
    exact k_sub [1, 2, 3, 0] rfl h
set_option maxHeartbeats 4000000 in
set_option maxRecDepth 100000 in
theorem ct_X7_stepDown {l : Launch} {D : va_G} {cA : Nat → ClassId} {ad sa : Nat → Nat} (hj : kInj NC ad) (r1 : Nat) (hr1 : kdC r1 = (0, 1, 13)) (r2 : Nat) (hr2 : kdC r2 = (1, 30, 0)) (a3 : Int) (z : Hp) (Kp : Int → Prop) (h : cal_X7_stepDown r1 r2 a3 z Kp) : kMet l yX7_stepDown cX7_stepDown 4 (some .int) 1 NC kdC D cA ad sa [.ref (ad r1), .ref (ad r2), kI a3] z (kQi NC kdC D cA ad (fun v z1 => z1 = z ∧ Kp v)) := by
  unfold cal_X7_stepDown at h
  refine k_met (cc := cX7_stepDown) (own := RX7) (nL := 4) rfl rfl (Nat.le_of_ble_eq_true rfl) hj kltC (fun p e s m below meth c X hrt hlk => ?_)
  refine k_sub (lv' := [(0, .ref (ad r1)), (1, .ref (ad r2)), (2, kI a3)]) [0, 1, 2] rfl ?_
  refine k_iconst X dX7_stepDown_0 ?_
  refine k_istore_n X dX7_stepDown_1 h (fun v1 => [(3, kI v1), (0, .ref (ad r1)), (1, .ref (ad r2)), (2, kI a3)]) (by decide) (fun _ => rfl) (fun v1 h => ?_)
  refine k_sub (lv' := [(0, .ref (ad r1)), (1, .ref (ad r2)), (2, kI a3), (3, kI v1)]) [1, 2, 3, 0] rfl ?_
  refine h (fun v3 => kAt p l e (kR 1) s m ([.ref (ad r1), .ref (ad r2), kI a3] : List Value).toArray below meth c (MQ below (kQi NC kdC D cA ad (fun v z1 => z1 = z ∧ Kp v)) ([.ref (ad r1), .ref (ad r2), kI a3] : List Value).toArray s 0 0 (kA NC ad)) 4 NC kdC D cA ad 2 [(0, .ref (ad r1)), (1, .ref (ad r2)), (2, kI a3), (3, kI v3)] [] z) (fun v3 h => ?_)
  refine k_iload_n X dX7_stepDown_2 3 rfl ?_
  refine k_bipush X dX7_stepDown_3 (by decide +kernel) ?_
  refine k_icmp_ge (tgt := 46) X dX7_stepDown_5 (by decide) ⟨h.1, ⟨by decide, by decide⟩, h.2⟩ (fun h => ?_) (fun h => ?_)
  · refine k_iload_n X dX7_stepDown_46 2 rfl ?_
    exact k_iret X hrt hlk dX7_stepDown_47 ⟨rfl, h⟩
  · refine k_aload_n X dX7_stepDown_8 1 rfl ?_
    refine k_iload_n X dX7_stepDown_9 3 rfl ?_
    refine k_iald X hr2 (Nat.le_of_ble_eq_true rfl) dX7_stepDown_10 h (fun h => ?_)
    refine jn_use (fun J4 => J4 → kAt p l e (kR 1) s m ([.ref (ad r1), .ref (ad r2), kI a3] : List Value).toArray below meth c (MQ below (kQi NC kdC D cA ad (fun v z1 => z1 = z ∧ Kp v)) ([.ref (ad r1), .ref (ad r2), kI a3] : List Value).toArray s 0 0 (kA NC ad)) 4 NC kdC D cA ad 40 [(0, .ref (ad r1)), (1, .ref (ad r2)), (2, kI a3), (3, kI v3)] [] z) h ?_ (fun J4 hJ4 h => ?_)
    · intro h
      refine k_iinc X dX7_stepDown_40 3 rfl h (fun v5 => [(3, kI v5), (0, .ref (ad r1)), (1, .ref (ad r2)), (2, kI a3)]) (by decide) (fun _ => rfl) (fun v5 h => ?_)
      refine k_goto (tgt := 2) X dX7_stepDown_43 (by decide) ?_
      exact k_sub [1, 2, 3, 0] rfl h
    · refine k_if_lt (tgt := 40) X dX7_stepDown_11 (by decide) h (fun h => ?_) (fun h => ?_)
      · exact k_sub [0, 1, 2, 3] rfl (hJ4 h)
      · refine k_aload_n X dX7_stepDown_14 1 rfl ?_
        refine k_iload_n X dX7_stepDown_15 3 rfl ?_
        refine k_iald X hr2 (Nat.le_of_ble_eq_true rfl) dX7_stepDown_16 h (fun h => ?_)
        refine k_aload_n X dX7_stepDown_17 1 rfl ?_
        refine k_iload_n X dX7_stepDown_18 2 rfl ?_
        refine k_iald X hr2 (Nat.le_of_ble_eq_true rfl) dX7_stepDown_19 h (fun h => ?_)
        refine k_iconst X dX7_stepDown_20 ?_
        refine k_isub X dX7_stepDown_21 ?_
        refine k_icmp_ne (tgt := 40) X dX7_stepDown_22 (by decide) h (fun h => ?_) (fun h => ?_)
        · exact k_sub [0, 1, 2, 3] rfl (hJ4 h)
        · refine k_aload_n X dX7_stepDown_25 0 rfl ?_
          refine k_getR (t := r1 + 6) X fk_X7_42 hr1 (by decide) rfl dX7_stepDown_26 ?_
          refine k_iload_n X dX7_stepDown_29 3 rfl ?_
          refine k_iald X (kc_1_7 hr1) (Nat.le_of_ble_eq_true rfl) dX7_stepDown_30 h (fun h => ?_)
          refine k_iload_n X dX7_stepDown_31 2 rfl ?_
          refine k_afterP (st := []) (fun H locs ls hP hS hl => k_runS (As := [kI (z (r1 + 6) v3.toNat), kI a3]) X lk_X7_36 yo_X1_has rfl (kR_ok (by decide) (by decide)) (ct_X1_has (kCx_j X) _ _ _ _ h) (Nat.le_of_ble_eq_true rfl) dX7_stepDown_32 hP hS hl) (fun v6 h => ?_)
          refine k_if_eq (tgt := 40) X dX7_stepDown_35 (by decide) h (fun h => ?_) (fun h => ?_)
          · exact k_sub [0, 1, 2, 3] rfl (hJ4 h)
          · refine k_iload_n X dX7_stepDown_38 3 rfl ?_
            exact k_iret X hrt hlk dX7_stepDown_39 ⟨rfl, h⟩
set_option maxHeartbeats 4000000 in
set_option maxRecDepth 100000 in
theorem ct_X7_descend {l : Launch} {D : va_G} {cA : Nat → ClassId} {ad sa : Nat → Nat} (hj : kInj NC ad) (t : Nat) (ht : kdC t = (0, 6, 5)) (r1 : Nat) (hr1 : kdC r1 = (0, 1, 13)) (r2 : Nat) (hr2 : kdC r2 = (1, 30, 0)) (a3 : Int) (z : Hp) (Kp : Int → Prop) (h : cal_X7_descend t r1 r2 a3 z Kp) : kMet l yX7_descend cX7_descend 6 (some .int) 2 NC kdC D cA ad sa [.ref (ad t), .ref (ad r1), .ref (ad r2), kI a3] z (kQi NC kdC D cA ad (fun v z1 => z1 = z ∧ Kp v)) := by
  unfold cal_X7_descend at h
  refine k_met (cc := cX7_descend) (own := RX7) (nL := 6) rfl rfl (Nat.le_of_ble_eq_true rfl) hj kltC (fun p e s m below meth c X hrt hlk => ?_)
  refine k_sub (lv' := [(0, .ref (ad t)), (1, .ref (ad r1)), (2, .ref (ad r2)), (3, kI a3)]) [0, 1, 2, 3] rfl ?_
  refine k_aload_n X dX7_descend_0 0 rfl ?_
  refine k_getI X fk_X7_22 ht rfl dX7_descend_1 ?_
  refine k_istore X dX7_descend_4 h (fun v1 => [(4, kI v1), (0, .ref (ad t)), (1, .ref (ad r1)), (2, .ref (ad r2)), (3, kI a3)]) (by decide) (fun _ => rfl) (fun v1 h => ?_)
  refine k_iconst X dX7_descend_6 ?_
  refine k_istore X dX7_descend_7 h (fun v2 => [(5, kI v2), (4, kI v1), (0, .ref (ad t)), (1, .ref (ad r1)), (2, .ref (ad r2)), (3, kI a3)]) (by decide) (fun _ => rfl) (fun v2 h => ?_)
  refine k_sub (lv' := [(1, .ref (ad r1)), (2, .ref (ad r2)), (3, kI a3), (4, kI v1), (5, kI v2)]) [3, 4, 5, 1, 0] rfl ?_
  refine h (fun v4 v5 => kAt p l e (kR 2) s m ([.ref (ad t), .ref (ad r1), .ref (ad r2), kI a3] : List Value).toArray below meth c (MQ below (kQi NC kdC D cA ad (fun v z1 => z1 = z ∧ Kp v)) ([.ref (ad t), .ref (ad r1), .ref (ad r2), kI a3] : List Value).toArray s 0 0 (kA NC ad)) 6 NC kdC D cA ad 9 [(1, .ref (ad r1)), (2, .ref (ad r2)), (3, kI a3), (4, kI v4), (5, kI v5)] [] z) (fun v4 v5 h => ?_)
  refine k_iload X dX7_descend_9 4 rfl ?_
  refine k_iload_n X dX7_descend_11 2 rfl ?_
  refine k_icmp_ge (tgt := 37) X dX7_descend_12 (by decide) h (fun h => ?_) (fun h => ?_)
  · refine k_iload X dX7_descend_37 3 rfl ?_
    exact k_iret X hrt hlk dX7_descend_39 ⟨rfl, h⟩
  · refine k_iload X dX7_descend_15 4 rfl ?_
    refine k_bipush X dX7_descend_17 (by decide +kernel) ?_
    refine k_icmp_ge (tgt := 37) X dX7_descend_19 (by decide) ⟨h.1, ⟨by decide, by decide⟩, h.2⟩ (fun h => ?_) (fun h => ?_)
    · refine k_iload X dX7_descend_37 3 rfl ?_
      exact k_iret X hrt hlk dX7_descend_39 ⟨rfl, h⟩
    · refine k_aload_n X dX7_descend_22 0 rfl ?_
      refine k_aload_n X dX7_descend_23 1 rfl ?_
      refine k_iload X dX7_descend_24 3 rfl ?_
      refine k_afterP (st := []) (fun H locs ls hP hS hl => k_runS (As := [.ref (ad r1), .ref (ad r2), kI v4]) X lk_X7_45 yo_X7_stepDown rfl (kR_ok (by decide) (by decide)) (ct_X7_stepDown (kCx_j X) r1 hr1 r2 hr2 _ _ _ h) (Nat.le_of_ble_eq_true rfl) dX7_descend_26 hP hS hl) (fun v6 h => ?_)
      refine k_istore X dX7_descend_29 h (fun v7 => [(4, kI v7), (1, .ref (ad r1)), (2, .ref (ad r2)), (3, kI a3), (5, kI v5)]) (by decide) (fun _ => rfl) (fun v7 h => ?_)
      refine k_iinc X dX7_descend_31 4 rfl h (fun v8 => [(5, kI v8), (4, kI v7), (1, .ref (ad r1)), (2, .ref (ad r2)), (3, kI a3)]) (by decide) (fun _ => rfl) (fun v8 h => ?_)
      refine k_goto (tgt := 9) X dX7_descend_34 (by decide) ?_
      exact k_sub [2, 3, 4, 1, 0] rfl h
set_option maxHeartbeats 4000000 in
set_option maxRecDepth 100000 in
theorem ct_X7_isHalf {l : Launch} {D : va_G} {cA : Nat → ClassId} {ad sa : Nat → Nat} (hj : kInj NC ad) (t : Nat) (ht : kdC t = (0, 6, 5)) (r1 : Nat) (hr1 : kdC r1 = (0, 1, 13)) (z : Hp) (Kp : Int → Prop) (h : cal_X7_isHalf t r1 z Kp) : kMet l yX7_isHalf cX7_isHalf 2 (some .boolean) 3 NC kdC D cA ad sa [.ref (ad t), .ref (ad r1)] z (kQi NC kdC D cA ad (fun v z1 => z1 = z ∧ Kp v)) := by
  unfold cal_X7_isHalf at h
  refine k_met (cc := cX7_isHalf) (own := RX7) (nL := 2) rfl rfl (Nat.le_of_ble_eq_true rfl) hj kltC (fun p e s m below meth c X hrt hlk => ?_)
  refine k_sub (lv' := [(0, .ref (ad t)), (1, .ref (ad r1))]) [0, 1] rfl ?_
  refine k_aload_n X dX7_isHalf_0 0 rfl ?_
  refine k_getI X fk_X7_30 ht rfl dX7_isHalf_1 ?_
  refine k_iconst X dX7_isHalf_4 ?_
  refine k_icmp_lt (tgt := 47) X dX7_isHalf_5 (by decide) ⟨h.1, ⟨by decide, by decide⟩, h.2⟩ (fun h => ?_) (fun h => ?_)
  · refine k_iconst X dX7_isHalf_47 ?_
    exact k_zret X hrt hlk dX7_isHalf_48 ⟨Or.inl rfl, ⟨rfl, h⟩⟩
  · refine k_aload_n X dX7_isHalf_8 0 rfl ?_
    refine k_getI X fk_X7_33 ht rfl dX7_isHalf_9 ?_
    refine k_iconst X dX7_isHalf_12 ?_
    refine k_icmp_lt (tgt := 47) X dX7_isHalf_13 (by decide) ⟨h.1, ⟨by decide, by decide⟩, h.2⟩ (fun h => ?_) (fun h => ?_)
    · refine k_iconst X dX7_isHalf_47 ?_
      exact k_zret X hrt hlk dX7_isHalf_48 ⟨Or.inl rfl, ⟨rfl, h⟩⟩
    · refine k_aload_n X dX7_isHalf_16 1 rfl ?_
      refine k_aload_n X dX7_isHalf_17 0 rfl ?_
      refine k_aload_n X dX7_isHalf_18 1 rfl ?_
      refine k_aload_n X dX7_isHalf_19 0 rfl ?_
      refine k_getR (t := t + 1) X fk_X7_9 ht (by decide) rfl dX7_isHalf_20 ?_
      refine k_iconst X dX7_isHalf_23 ?_
      refine k_afterP (st := [.ref (ad r1)]) (fun H locs ls hP hS hl => k_runV (As := [.ref (ad r1), .ref (ad (t + 1)), kI 1]) X lk_X7_49 rfl yo_X7_descend rfl (kR_ok (by decide) (by decide)) (ct_X7_descend (kCx_j X) t ht r1 hr1 (t + 1) (kc_6_0 ht) _ _ _ h) ht rfl (Nat.le_of_ble_eq_true rfl) dX7_isHalf_24 hP hS hl) (fun v1 h => ?_)
      refine k_aload_n X dX7_isHalf_27 0 rfl ?_
      refine k_aload_n X dX7_isHalf_28 1 rfl ?_
      refine k_aload_n X dX7_isHalf_29 0 rfl ?_
      refine k_getR (t := t + 2) X fk_X7_15 ht (by decide) rfl dX7_isHalf_30 ?_
      refine k_iconst X dX7_isHalf_33 ?_
      refine k_afterP (st := [kI v1, .ref (ad r1)]) (fun H locs ls hP hS hl => k_runV (As := [.ref (ad r1), .ref (ad (t + 2)), kI 1]) X lk_X7_49 rfl yo_X7_descend rfl (kR_ok (by decide) (by decide)) (ct_X7_descend (kCx_j X) t ht r1 hr1 (t + 2) (kc_6_1 ht) _ _ _ h) ht rfl (Nat.le_of_ble_eq_true rfl) dX7_isHalf_34 hP hS hl) (fun v2 h => ?_)
      refine k_afterP (st := []) (fun H locs ls hP hS hl => k_runV (As := [kI v1, kI v2]) X lk_X7_52 rfl yo_X1_haveAlikeParents rfl (kR_ok (by decide) (by decide)) (ct_X1_haveAlikeParents (kCx_j X) r1 hr1 _ _ _ _ h) hr1 rfl (Nat.le_of_ble_eq_true rfl) dX7_isHalf_37 hP hS hl) (fun v3 h => ?_)
      refine k_if_ne (tgt := 47) X dX7_isHalf_40 (by decide) h (fun h => ?_) (fun h => ?_)
      · refine k_iconst X dX7_isHalf_47 ?_
        exact k_zret X hrt hlk dX7_isHalf_48 ⟨Or.inl rfl, ⟨rfl, h⟩⟩
      · refine k_iconst X dX7_isHalf_43 ?_
        refine k_goto (tgt := 48) X dX7_isHalf_44 (by decide) ?_
        exact k_zret X hrt hlk dX7_isHalf_48 ⟨Or.inr rfl, ⟨rfl, h⟩⟩
set_option maxHeartbeats 4000000 in
set_option maxRecDepth 100000 in
theorem ct_X7_isNearer {l : Launch} {D : va_G} {cA : Nat → ClassId} {ad sa : Nat → Nat} (hj : kInj NC ad) (t : Nat) (ht : kdC t = (0, 6, 5)) (a1 : Int) (z : Hp) (Kp : Int → Prop) (h : cal_X7_isNearer t a1 z Kp) : kMet l yX7_isNearer cX7_isNearer 3 (some .boolean) 0 NC kdC D cA ad sa [.ref (ad t), kI a1] z (kQi NC kdC D cA ad (fun v z1 => z1 = z ∧ Kp v)) := by
  unfold cal_X7_isNearer at h
  refine k_met (cc := cX7_isNearer) (own := RX7) (nL := 3) rfl rfl (Nat.le_of_ble_eq_true rfl) hj kltC (fun p e s m below meth c X hrt hlk => ?_)
  refine k_sub (lv' := [(0, .ref (ad t)), (1, kI a1)]) [0, 1] rfl ?_
  refine k_aload_n X dX7_isNearer_0 0 rfl ?_
  refine k_getR (t := t + 1) X fk_X7_9 ht (by decide) rfl dX7_isNearer_1 ?_
  refine k_iload_n X dX7_isNearer_4 1 rfl ?_
  refine k_iald X (kc_6_0 ht) (Nat.le_of_ble_eq_true rfl) dX7_isNearer_5 h (fun h => ?_)
  refine k_aload_n X dX7_isNearer_6 0 rfl ?_
  refine k_getR (t := t + 2) X fk_X7_15 ht (by decide) rfl dX7_isNearer_7 ?_
  refine k_iload_n X dX7_isNearer_10 1 rfl ?_
  refine k_iald X (kc_6_1 ht) (Nat.le_of_ble_eq_true rfl) dX7_isNearer_11 h (fun h => ?_)
  refine k_iadd X dX7_isNearer_12 ?_
  refine k_istore_n X dX7_isNearer_13 h (fun v1 => [(2, kI v1), (0, .ref (ad t)), (1, kI a1)]) (by decide) (fun _ => rfl) (fun v1 h => ?_)
  refine k_iload_n X dX7_isNearer_14 0 rfl ?_
  refine k_aload_n X dX7_isNearer_15 1 rfl ?_
  refine k_getI X fk_X7_30 ht rfl dX7_isNearer_16 ?_
  refine k_aload_n X dX7_isNearer_19 1 rfl ?_
  refine k_getI X fk_X7_33 ht rfl dX7_isNearer_20 ?_
  refine k_iadd X dX7_isNearer_23 ?_
  refine jn_use (fun J2 => J2 → kAt p l e (kR 0) s m ([.ref (ad t), kI a1] : List Value).toArray below meth c (MQ below (kQi NC kdC D cA ad (fun v z1 => z1 = z ∧ Kp v)) ([.ref (ad t), kI a1] : List Value).toArray s 0 0 (kA NC ad)) 3 NC kdC D cA ad 53 [] [] z) h ?_ (fun J2 hJ2 h => ?_)
  · intro h
    refine k_iconst X dX7_isNearer_53 ?_
    refine k_goto (tgt := 58) X dX7_isNearer_54 (by decide) ?_
    exact k_zret X hrt hlk dX7_isNearer_58 ⟨Or.inr rfl, ⟨rfl, h⟩⟩
  · refine k_icmp_lt (tgt := 53) X dX7_isNearer_24 (by decide) h (fun h => ?_) (fun h => ?_)
    · exact k_sub [] rfl (hJ2 h)
    · refine k_iload_n X dX7_isNearer_27 0 rfl ?_
      refine k_aload_n X dX7_isNearer_28 1 rfl ?_
      refine k_getI X fk_X7_30 ht rfl dX7_isNearer_29 ?_
      refine k_aload_n X dX7_isNearer_32 1 rfl ?_
      refine k_getI X fk_X7_33 ht rfl dX7_isNearer_33 ?_
      refine k_iadd X dX7_isNearer_36 ?_
      refine k_icmp_ne (tgt := 57) X dX7_isNearer_37 (by decide) h (fun h => ?_) (fun h => ?_)
      · refine k_iconst X dX7_isNearer_57 ?_
        exact k_zret X hrt hlk dX7_isNearer_58 ⟨Or.inl rfl, ⟨rfl, h⟩⟩
      · refine k_aload_n X dX7_isNearer_40 1 rfl ?_
        refine k_getR (t := t + 1) X fk_X7_9 ht (by decide) rfl dX7_isNearer_41 ?_
        refine k_iload_n X dX7_isNearer_44 2 rfl ?_
        refine k_iald X (kc_6_0 ht) (Nat.le_of_ble_eq_true rfl) dX7_isNearer_45 h (fun h => ?_)
        refine k_aload_n X dX7_isNearer_46 1 rfl ?_
        refine k_getI X fk_X7_30 ht rfl dX7_isNearer_47 ?_
        refine k_icmp_ge (tgt := 57) X dX7_isNearer_50 (by decide) h (fun h => ?_) (fun h => ?_)
        · refine k_iconst X dX7_isNearer_57 ?_
          exact k_zret X hrt hlk dX7_isNearer_58 ⟨Or.inl rfl, ⟨rfl, h⟩⟩
        · exact k_sub [] rfl (hJ2 h)
set_option maxHeartbeats 4000000 in
set_option maxRecDepth 100000 in
theorem ct_X7_seek {l : Launch} {D : va_G} {cA : Nat → ClassId} {ad sa : Nat → Nat} (hj : kInj NC ad) (t : Nat) (ht : kdC t = (0, 6, 5)) (r1 : Nat) (hr1 : kdC r1 = (0, 1, 13)) (a2 : Int) (a3 : Int) (z : Hp) (Kp : Hp → Prop) (h : cal_X7_seek t r1 a2 a3 z Kp) : kMet l yX7_seek cX7_seek 5 none 2 NC kdC D cA ad sa [.ref (ad t), .ref (ad r1), kI a2, kI a3] z (kQv NC kdC D cA ad Kp) := by
  unfold cal_X7_seek at h
  refine k_met (cc := cX7_seek) (own := RX7) (nL := 5) rfl rfl (Nat.le_of_ble_eq_true rfl) hj kltC (fun p e s m below meth c X hrt hlk => ?_)
  refine k_sub (lv' := [(0, .ref (ad t)), (1, .ref (ad r1)), (2, kI a2), (3, kI a3)]) [0, 1, 2, 3] rfl ?_
  refine k_aload_n X dX7_seek_0 1 rfl ?_
  refine k_iload_n X dX7_seek_1 2 rfl ?_
  refine k_aload_n X dX7_seek_2 0 rfl ?_
  refine k_getR (t := t + 1) X fk_X7_9 ht (by decide) rfl dX7_seek_3 ?_
  refine k_afterV (st := []) (fun H locs ls hP hS hl => k_runS (As := [.ref (ad r1), kI a2, .ref (ad (t + 1))]) X lk_X7_18 yo_X7_count rfl (kR_ok (by decide) (by decide)) (ct_X7_count (kCx_j X) r1 hr1 _ (t + 1) (kc_6_0 ht) _ _ h) (Nat.le_of_ble_eq_true rfl) dX7_seek_6 hP hS hl) (fun z1 h => ?_)
  refine k_aload_n X dX7_seek_9 1 rfl ?_
  refine k_iload_n X dX7_seek_10 3 rfl ?_
  refine k_aload_n X dX7_seek_11 0 rfl ?_
  refine k_getR (t := t + 2) X fk_X7_15 ht (by decide) rfl dX7_seek_12 ?_
  refine k_afterV (st := []) (fun H locs ls hP hS hl => k_runS (As := [.ref (ad r1), kI a3, .ref (ad (t + 2))]) X lk_X7_18 yo_X7_count rfl (kR_ok (by decide) (by decide)) (ct_X7_count (kCx_j X) r1 hr1 _ (t + 2) (kc_6_1 ht) _ _ h) (Nat.le_of_ble_eq_true rfl) dX7_seek_15 hP hS hl) (fun z2 h => ?_)
  refine k_aload_n X dX7_seek_18 0 rfl ?_
  refine k_iconst X dX7_seek_19 ?_
  refine k_putI X fp_X7_22 ht rfl dX7_seek_20 (k_nameH h (fun z3 h => ?_))
  refine k_iconst X dX7_seek_23 ?_
  refine k_istore X dX7_seek_24 h (fun v4 => [(4, kI v4), (0, .ref (ad t)), (1, .ref (ad r1)), (2, kI a2), (3, kI a3)]) (by decide) (fun _ => rfl) (fun v4 h => ?_)
  refine k_sub (lv' := [(0, .ref (ad t)), (4, kI v4)]) [1, 0] rfl ?_
  refine h (fun v6 z7 => kAt p l e (kR 2) s m ([.ref (ad t), .ref (ad r1), kI a2, kI a3] : List Value).toArray below meth c (MQ below (kQv NC kdC D cA ad Kp) ([.ref (ad t), .ref (ad r1), kI a2, kI a3] : List Value).toArray s 0 0 (kA NC ad)) 5 NC kdC D cA ad 26 [(0, .ref (ad t)), (4, kI v6)] [] z7) (fun v6 z7 h => ?_)
  refine k_iload X dX7_seek_26 1 rfl ?_
  refine k_bipush X dX7_seek_28 (by decide +kernel) ?_
  refine k_icmp_ge (tgt := 103) X dX7_seek_30 (by decide) ⟨h.1, ⟨by decide, by decide⟩, h.2⟩ (fun h => ?_) (fun h => ?_)
  · exact k_vret X hrt hlk dX7_seek_103 h
  · refine k_aload_n X dX7_seek_33 0 rfl ?_
    refine k_getR (t := t + 1) X fk_X7_9 ht (by decide) rfl dX7_seek_34 ?_
    refine k_iload X dX7_seek_37 1 rfl ?_
    refine k_iald X (kc_6_0 ht) (Nat.le_of_ble_eq_true rfl) dX7_seek_39 h (fun h => ?_)
    refine jn_use (fun J8 => ∀ (z9 : Hp), J8 z9 → kAt p l e (kR 2) s m ([.ref (ad t), .ref (ad r1), kI a2, kI a3] : List Value).toArray below meth c (MQ below (kQv NC kdC D cA ad Kp) ([.ref (ad t), .ref (ad r1), kI a2, kI a3] : List Value).toArray s 0 0 (kA NC ad)) 5 NC kdC D cA ad 97 [(0, .ref (ad t)), (4, kI v6)] [] z9) h ?_ (fun J8 hJ8 h => ?_)
    · intro z9 h
      refine k_iinc X dX7_seek_97 1 rfl h (fun v10 => [(4, kI v10), (0, .ref (ad t))]) (by decide) (fun _ => rfl) (fun v10 h => ?_)
      refine k_goto (tgt := 26) X dX7_seek_100 (by decide) ?_
      exact k_sub [1, 0] rfl h
    · refine k_if_lt (tgt := 97) X dX7_seek_40 (by decide) h (fun h => ?_) (fun h => ?_)
      · exact k_sub [0, 1] rfl (hJ8 _ h)
      · refine k_aload_n X dX7_seek_43 0 rfl ?_
        refine k_getR (t := t + 2) X fk_X7_15 ht (by decide) rfl dX7_seek_44 ?_
        refine k_iload X dX7_seek_47 1 rfl ?_
        refine k_iald X (kc_6_1 ht) (Nat.le_of_ble_eq_true rfl) dX7_seek_49 h (fun h => ?_)
        refine k_if_lt (tgt := 97) X dX7_seek_50 (by decide) h (fun h => ?_) (fun h => ?_)
        · exact k_sub [0, 1] rfl (hJ8 _ h)
        · refine k_aload_n X dX7_seek_53 0 rfl ?_
          refine k_getI X fk_X7_22 ht rfl dX7_seek_54 ?_
          refine jn_use (fun J11 => J11 → kAt p l e (kR 2) s m ([.ref (ad t), .ref (ad r1), kI a2, kI a3] : List Value).toArray below meth c (MQ below (kQv NC kdC D cA ad Kp) ([.ref (ad t), .ref (ad r1), kI a2, kI a3] : List Value).toArray s 0 0 (kA NC ad)) 5 NC kdC D cA ad 69 [(0, .ref (ad t)), (4, kI v6)] [] z7) h ?_ (fun J11 hJ11 h => ?_)
          · intro h
            refine k_aload_n X dX7_seek_69 0 rfl ?_
            refine k_iload X dX7_seek_70 1 rfl ?_
            refine k_putI X fp_X7_22 ht rfl dX7_seek_72 (k_nameH h (fun z12 h => ?_))
            refine k_aload_n X dX7_seek_75 0 rfl ?_
            refine k_aload_n X dX7_seek_76 0 rfl ?_
            refine k_getR (t := t + 1) X fk_X7_9 ht (by decide) rfl dX7_seek_77 ?_
            refine k_iload X dX7_seek_80 1 rfl ?_
            refine k_iald X (kc_6_0 ht) (Nat.le_of_ble_eq_true rfl) dX7_seek_82 h (fun h => ?_)
            refine k_putI X fp_X7_30 ht rfl dX7_seek_83 (k_nameH h (fun z13 h => ?_))
            refine k_aload_n X dX7_seek_86 0 rfl ?_
            refine k_aload_n X dX7_seek_87 0 rfl ?_
            refine k_getR (t := t + 2) X fk_X7_15 ht (by decide) rfl dX7_seek_88 ?_
            refine k_iload X dX7_seek_91 1 rfl ?_
            refine k_iald X (kc_6_1 ht) (Nat.le_of_ble_eq_true rfl) dX7_seek_93 h (fun h => ?_)
            refine k_putI X fp_X7_33 ht rfl dX7_seek_94 (k_nameH h (fun z14 h => ?_))
            exact k_sub [0, 1] rfl (hJ8 _ h)
          · refine k_if_lt (tgt := 69) X dX7_seek_57 (by decide) h (fun h => ?_) (fun h => ?_)
            · exact k_sub [0, 1] rfl (hJ11 h)
            · refine k_aload_n X dX7_seek_60 0 rfl ?_
              refine k_iload X dX7_seek_61 1 rfl ?_
              refine k_afterP (st := []) (fun H locs ls hP hS hl => k_runV (As := [kI v6]) X lk_X7_26 rfl yo_X7_isNearer rfl (kR_ok (by decide) (by decide)) (ct_X7_isNearer (kCx_j X) t ht _ _ _ h) ht rfl (Nat.le_of_ble_eq_true rfl) dX7_seek_63 hP hS hl) (fun v15 h => ?_)
              refine k_if_eq (tgt := 97) X dX7_seek_66 (by decide) h (fun h => ?_) (fun h => ?_)
              · exact k_sub [0, 1] rfl (hJ8 _ h)
              · exact k_sub [0, 1] rfl (hJ11 h)
set_option maxHeartbeats 4000000 in
set_option maxRecDepth 100000 in
theorem ct_X7_stop {l : Launch} {D : va_G} {cA : Nat → ClassId} {ad sa : Nat → Nat} (hj : kInj NC ad) (t : Nat) (ht : kdC t = (0, 6, 5)) (r1 : Nat) (hr1 : kdC r1 = (0, 1, 13)) (a2 : Int) (z : Hp) (Kp : Int → Prop) (h : cal_X7_stop t r1 a2 z Kp) : kMet l yX7_stop cX7_stop 3 (some .int) 3 NC kdC D cA ad sa [.ref (ad t), .ref (ad r1), kI a2] z (kQi NC kdC D cA ad (fun v z1 => z1 = z ∧ Kp v)) := by
  unfold cal_X7_stop at h
  refine k_met (cc := cX7_stop) (own := RX7) (nL := 3) rfl rfl (Nat.le_of_ble_eq_true rfl) hj kltC (fun p e s m below meth c X hrt hlk => ?_)
  refine k_sub (lv' := [(0, .ref (ad t)), (1, .ref (ad r1)), (2, kI a2)]) [0, 1, 2] rfl ?_
  refine k_iload_n X dX7_stop_0 2 rfl ?_
  refine k_aload_n X dX7_stop_1 0 rfl ?_
  refine k_getI X fk_X7_30 ht rfl dX7_stop_2 ?_
  refine k_icmp_gt (tgt := 26) X dX7_stop_5 (by decide) h (fun h => ?_) (fun h => ?_)
  · refine k_aload_n X dX7_stop_26 0 rfl ?_
    refine k_aload_n X dX7_stop_27 1 rfl ?_
    refine k_aload_n X dX7_stop_28 0 rfl ?_
    refine k_getR (t := t + 2) X fk_X7_15 ht (by decide) rfl dX7_stop_29 ?_
    refine k_iload_n X dX7_stop_32 2 rfl ?_
    refine k_aload_n X dX7_stop_33 0 rfl ?_
    refine k_getI X fk_X7_30 ht rfl dX7_stop_34 ?_
    refine k_isub X dX7_stop_37 ?_
    refine k_afterP (st := []) (fun H locs ls hP hS hl => k_runV (As := [.ref (ad r1), .ref (ad (t + 2)), kI (a2 - (z t 3))]) X lk_X7_49 rfl yo_X7_descend rfl (kR_ok (by decide) (by decide)) (ct_X7_descend (kCx_j X) t ht r1 hr1 (t + 2) (kc_6_1 ht) _ _ _ h) ht rfl (Nat.le_of_ble_eq_true rfl) dX7_stop_38 hP hS hl) (fun v1 h => ?_)
    exact k_iret X hrt hlk dX7_stop_41 ⟨rfl, h⟩
  · refine k_aload_n X dX7_stop_8 0 rfl ?_
    refine k_aload_n X dX7_stop_9 1 rfl ?_
    refine k_aload_n X dX7_stop_10 0 rfl ?_
    refine k_getR (t := t + 1) X fk_X7_9 ht (by decide) rfl dX7_stop_11 ?_
    refine k_aload_n X dX7_stop_14 0 rfl ?_
    refine k_getI X fk_X7_30 ht rfl dX7_stop_15 ?_
    refine k_iload_n X dX7_stop_18 2 rfl ?_
    refine k_isub X dX7_stop_19 ?_
    refine k_afterP (st := []) (fun H locs ls hP hS hl => k_runV (As := [.ref (ad r1), .ref (ad (t + 1)), kI ((z t 3) - a2)]) X lk_X7_49 rfl yo_X7_descend rfl (kR_ok (by decide) (by decide)) (ct_X7_descend (kCx_j X) t ht r1 hr1 (t + 1) (kc_6_0 ht) _ _ _ h) ht rfl (Nat.le_of_ble_eq_true rfl) dX7_stop_20 hP hS hl) (fun v2 h => ?_)
    refine k_goto (tgt := 41) X dX7_stop_23 (by decide) ?_
    exact k_iret X hrt hlk dX7_stop_41 ⟨rfl, h⟩
set_option maxHeartbeats 4000000 in
set_option maxRecDepth 100000 in
theorem ct_X8_isBornAhead {l : Launch} {D : va_G} {cA : Nat → ClassId} {ad sa : Nat → Nat} (hj : kInj NC ad) (t : Nat) (ht : kdC t = (0, 7, 7)) (a1 : Int) (a2 : Int) (z : Hp) (Kp : Int → Prop) (h : cal_X8_isBornAhead t a1 a2 z Kp) : kMet l yX8_isBornAhead cX8_isBornAhead 4 (some .boolean) 0 NC kdC D cA ad sa [.ref (ad t), kI a1, kI a2] z (kQi NC kdC D cA ad (fun v z1 => z1 = z ∧ Kp v)) := by
  unfold cal_X8_isBornAhead at h
  refine k_met (cc := cX8_isBornAhead) (own := RX8) (nL := 4) rfl rfl (Nat.le_of_ble_eq_true rfl) hj kltC (fun p e s m below meth c X hrt hlk => ?_)
  refine k_sub (lv' := [(0, .ref (ad t)), (1, kI a1), (2, kI a2)]) [0, 1, 2] rfl ?_
  refine k_aload_n X dX8_isBornAhead_0 0 rfl ?_
  refine k_getR (t := t + 13) X fk_X8_25 ht (by decide) rfl dX8_isBornAhead_1 ?_
  refine k_getR (t := t + 13 + 1) X fk_X8_101 (kc_7_3 ht) (by decide) rfl dX8_isBornAhead_4 ?_
  refine k_astore_n (lv' := [(3, .ref (ad (t + 13 + 1))), (0, .ref (ad t)), (1, kI a1), (2, kI a2)]) X dX8_isBornAhead_7 (by decide) rfl ?_
  refine k_aload_n X dX8_isBornAhead_8 0 rfl ?_
  refine k_iconst X dX8_isBornAhead_9 ?_
  refine k_iload_n X dX8_isBornAhead_10 2 rfl ?_
  refine k_imul X dX8_isBornAhead_11 ?_
  refine k_iald X (kc_3_0 (kc_7_3 ht)) (Nat.le_of_ble_eq_true rfl) dX8_isBornAhead_12 h (fun h => ?_)
  refine k_aload_n X dX8_isBornAhead_13 0 rfl ?_
  refine k_iconst X dX8_isBornAhead_14 ?_
  refine k_iload_n X dX8_isBornAhead_15 3 rfl ?_
  refine k_imul X dX8_isBornAhead_16 ?_
  refine k_iald X (kc_3_0 (kc_7_3 ht)) (Nat.le_of_ble_eq_true rfl) dX8_isBornAhead_17 h (fun h => ?_)
  refine k_icmp_eq (tgt := 40) X dX8_isBornAhead_18 (by decide) h (fun h => ?_) (fun h => ?_)
  · refine k_aload_n X dX8_isBornAhead_40 0 rfl ?_
    refine k_iconst X dX8_isBornAhead_41 ?_
    refine k_iload_n X dX8_isBornAhead_42 2 rfl ?_
    refine k_imul X dX8_isBornAhead_43 ?_
    refine k_iconst X dX8_isBornAhead_44 ?_
    refine k_iadd X dX8_isBornAhead_45 ?_
    refine k_iald X (kc_3_0 (kc_7_3 ht)) (Nat.le_of_ble_eq_true rfl) dX8_isBornAhead_46 h (fun h => ?_)
    refine k_aload_n X dX8_isBornAhead_47 0 rfl ?_
    refine k_iconst X dX8_isBornAhead_48 ?_
    refine k_iload_n X dX8_isBornAhead_49 3 rfl ?_
    refine k_imul X dX8_isBornAhead_50 ?_
    refine k_iconst X dX8_isBornAhead_51 ?_
    refine k_iadd X dX8_isBornAhead_52 ?_
    refine k_iald X (kc_3_0 (kc_7_3 ht)) (Nat.le_of_ble_eq_true rfl) dX8_isBornAhead_53 h (fun h => ?_)
    refine k_icmp_ge (tgt := 61) X dX8_isBornAhead_54 (by decide) h (fun h => ?_) (fun h => ?_)
    · refine k_iconst X dX8_isBornAhead_61 ?_
      exact k_zret X hrt hlk dX8_isBornAhead_62 ⟨Or.inl rfl, ⟨rfl, h⟩⟩
    · refine k_iconst X dX8_isBornAhead_57 ?_
      refine k_goto (tgt := 62) X dX8_isBornAhead_58 (by decide) ?_
      exact k_zret X hrt hlk dX8_isBornAhead_62 ⟨Or.inr rfl, ⟨rfl, h⟩⟩
  · refine k_aload_n X dX8_isBornAhead_21 0 rfl ?_
    refine k_iconst X dX8_isBornAhead_22 ?_
    refine k_iload_n X dX8_isBornAhead_23 2 rfl ?_
    refine k_imul X dX8_isBornAhead_24 ?_
    refine k_iald X (kc_3_0 (kc_7_3 ht)) (Nat.le_of_ble_eq_true rfl) dX8_isBornAhead_25 h (fun h => ?_)
    refine k_aload_n X dX8_isBornAhead_26 0 rfl ?_
    refine k_iconst X dX8_isBornAhead_27 ?_
    refine k_iload_n X dX8_isBornAhead_28 3 rfl ?_
    refine k_imul X dX8_isBornAhead_29 ?_
    refine k_iald X (kc_3_0 (kc_7_3 ht)) (Nat.le_of_ble_eq_true rfl) dX8_isBornAhead_30 h (fun h => ?_)
    refine k_icmp_ge (tgt := 38) X dX8_isBornAhead_31 (by decide) h (fun h => ?_) (fun h => ?_)
    · refine k_iconst X dX8_isBornAhead_38 ?_
      exact k_zret X hrt hlk dX8_isBornAhead_39 ⟨Or.inl rfl, ⟨rfl, h⟩⟩
    · refine k_iconst X dX8_isBornAhead_34 ?_
      refine k_goto (tgt := 39) X dX8_isBornAhead_35 (by decide) ?_
      exact k_zret X hrt hlk dX8_isBornAhead_39 ⟨Or.inr rfl, ⟨rfl, h⟩⟩
set_option maxHeartbeats 4000000 in
set_option maxRecDepth 100000 in
theorem ct_X8_note {l : Launch} {D : va_G} {cA : Nat → ClassId} {ad sa : Nat → Nat} (hj : kInj NC ad) (t : Nat) (ht : kdC t = (0, 7, 7)) (a1 : Int) (a2 : Int) (z : Hp) (Kp : Hp → Prop) (h : cal_X8_note t a1 a2 z Kp) : kMet l yX8_note cX8_note 3 none 0 NC kdC D cA ad sa [.ref (ad t), kI a1, kI a2] z (kQv NC kdC D cA ad Kp) := by
  unfold cal_X8_note at h
  refine k_met (cc := cX8_note) (own := RX8) (nL := 3) rfl rfl (Nat.le_of_ble_eq_true rfl) hj kltC (fun p e s m below meth c X hrt hlk => ?_)
  refine k_sub (lv' := [(0, .ref (ad t)), (1, kI a1), (2, kI a2)]) [0, 1, 2] rfl ?_
  refine k_aload_n X dX8_note_0 0 rfl ?_
  refine k_getI X fk_X8_48 ht rfl dX8_note_1 ?_
  refine k_if_ne (tgt := 21) X dX8_note_4 (by decide) h (fun h => ?_) (fun h => ?_)
  · exact k_vret X hrt hlk dX8_note_21 h
  · refine k_iload_n X dX8_note_7 2 rfl ?_
    refine k_if_lt (tgt := 21) X dX8_note_8 (by decide) h (fun h => ?_) (fun h => ?_)
    · exact k_vret X hrt hlk dX8_note_21 h
    · refine k_aload_n X dX8_note_11 0 rfl ?_
      refine k_iload_n X dX8_note_12 1 rfl ?_
      refine k_putI X fp_X8_48 ht rfl dX8_note_13 (k_nameH h (fun z1 h => ?_))
      refine k_aload_n X dX8_note_16 0 rfl ?_
      refine k_iload_n X dX8_note_17 2 rfl ?_
      refine k_putI X fp_X8_51 ht rfl dX8_note_18 (k_nameH h (fun z2 h => ?_))
      exact k_vret X hrt hlk dX8_note_21 h
