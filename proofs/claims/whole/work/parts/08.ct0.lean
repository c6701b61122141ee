set_option maxHeartbeats 4000000 in
set_option maxRecDepth 100000 in
theorem ct_J6_bitCount_0f7a4 {l : Launch} {D : va_G} {cA : Nat → ClassId} {ad sa : Nat → Nat} {N : Nat} {kd : Nat → Nat × Nat × Nat} (hj : kInj N ad) (hkd : kLt N kd) (a1 : Int) (z : Hp) (Kp : Int → Prop) (h : cal_J6_bitCount_0f7a4 a1 z Kp) : kMet l yJ6_bitCount_0f7a4 cJ6_bitCount_0f7a4 1 (some .int) 0 N kd D cA ad sa [kI a1] z (kQi N kd D cA ad (fun v z1 => z1 = z ∧ Kp v)) := by
  unfold cal_J6_bitCount_0f7a4 at h
  refine k_met (cc := cJ6_bitCount_0f7a4) (own := RJ6) (nL := 1) rfl rfl (Nat.le_of_ble_eq_true rfl) hj hkd (fun p e s m below meth c X hrt hlk => ?_)
  refine k_sub (lv' := [(0, kI a1)]) [0] rfl ?_
  refine k_iload_n X dJ6_bitCount_0f7a4_0 0 rfl ?_
  refine k_iload_n X dJ6_bitCount_0f7a4_1 0 rfl ?_
  refine k_iconst X dJ6_bitCount_0f7a4_2 ?_
  refine k_iushr X dJ6_bitCount_0f7a4_3 ?_
  refine k_ldcw X 1431655765 mw458 dJ6_bitCount_0f7a4_4 ?_
  refine k_iand X dJ6_bitCount_0f7a4_7 ?_
  refine k_isub X dJ6_bitCount_0f7a4_8 ?_
  refine k_istore_n X dJ6_bitCount_0f7a4_9 h (fun v1 => [(0, kI v1)]) (by decide) (fun _ => rfl) (fun v1 h => ?_)
  refine k_iload_n X dJ6_bitCount_0f7a4_10 0 rfl ?_
  refine k_ldcw X 858993459 mw459 dJ6_bitCount_0f7a4_11 ?_
  refine k_iand X dJ6_bitCount_0f7a4_14 ?_
  refine k_iload_n X dJ6_bitCount_0f7a4_15 0 rfl ?_
  refine k_iconst X dJ6_bitCount_0f7a4_16 ?_
  refine k_iushr X dJ6_bitCount_0f7a4_17 ?_
  refine k_ldcw X 858993459 mw459 dJ6_bitCount_0f7a4_18 ?_
  refine k_iand X dJ6_bitCount_0f7a4_21 ?_
  refine k_iadd X dJ6_bitCount_0f7a4_22 ?_
  refine k_istore_n X dJ6_bitCount_0f7a4_23 h (fun v2 => [(0, kI v2)]) (by decide) (fun _ => rfl) (fun v2 h => ?_)
  refine k_iload_n X dJ6_bitCount_0f7a4_24 0 rfl ?_
  refine k_iload_n X dJ6_bitCount_0f7a4_25 0 rfl ?_
  refine k_iconst X dJ6_bitCount_0f7a4_26 ?_
  refine k_iushr X dJ6_bitCount_0f7a4_27 ?_
  refine k_iadd X dJ6_bitCount_0f7a4_28 ?_
  refine k_ldcw X 252645135 mw460 dJ6_bitCount_0f7a4_29 ?_
  refine k_iand X dJ6_bitCount_0f7a4_32 ?_
  refine k_istore_n X dJ6_bitCount_0f7a4_33 h (fun v3 => [(0, kI v3)]) (by decide) (fun _ => rfl) (fun v3 h => ?_)
  refine k_iload_n X dJ6_bitCount_0f7a4_34 0 rfl ?_
  refine k_iload_n X dJ6_bitCount_0f7a4_35 0 rfl ?_
  refine k_bipush X dJ6_bitCount_0f7a4_36 (by decide +kernel) ?_
  refine k_iushr X dJ6_bitCount_0f7a4_38 ?_
  refine k_iadd X dJ6_bitCount_0f7a4_39 ?_
  refine k_istore_n X dJ6_bitCount_0f7a4_40 h (fun v4 => [(0, kI v4)]) (by decide) (fun _ => rfl) (fun v4 h => ?_)
  refine k_iload_n X dJ6_bitCount_0f7a4_41 0 rfl ?_
  refine k_iload_n X dJ6_bitCount_0f7a4_42 0 rfl ?_
  refine k_bipush X dJ6_bitCount_0f7a4_43 (by decide +kernel) ?_
  refine k_iushr X dJ6_bitCount_0f7a4_45 ?_
  refine k_iadd X dJ6_bitCount_0f7a4_46 ?_
  refine k_istore_n X dJ6_bitCount_0f7a4_47 h (fun v5 => [(0, kI v5)]) (by decide) (fun _ => rfl) (fun v5 h => ?_)
  refine k_iload_n X dJ6_bitCount_0f7a4_48 0 rfl ?_
  refine k_bipush X dJ6_bitCount_0f7a4_49 (by decide +kernel) ?_
  refine k_iand X dJ6_bitCount_0f7a4_51 ?_
  exact k_iret X hrt hlk dJ6_bitCount_0f7a4_52 ⟨rfl, h⟩
set_option maxHeartbeats 4000000 in
set_option maxRecDepth 100000 in
theorem ct_X0_addPerson {l : Launch} {D : va_G} {cA : Nat → ClassId} {ad sa : Nat → Nat} (hj : kInj NC ad) (t : Nat) (ht : kdC t = (0, 0, 11)) (r1 : Nat) (hr1 : kdC r1 = (0, 5, 2)) (a2 : Int) (z : Hp) (Kp : Hp → Prop) (h : cal_X0_addPerson t r1 a2 z Kp) : kMet l yX0_addPerson cX0_addPerson 4 none 0 NC kdC D cA ad sa [.ref (ad t), .ref (ad r1), kI a2] z (kQv NC kdC D cA ad Kp) := by
  unfold cal_X0_addPerson at h
  refine k_met (cc := cX0_addPerson) (own := RX0) (nL := 4) rfl rfl (Nat.le_of_ble_eq_true rfl) hj kltC (fun p e s m below meth c X hrt hlk => ?_)
  refine k_sub (lv' := [(0, .ref (ad t)), (1, .ref (ad r1)), (2, kI a2)]) [0, 1, 2] rfl ?_
  refine k_iconst X dX0_addPerson_0 ?_
  refine k_istore_n X dX0_addPerson_1 h (fun v1 => [(3, kI v1), (0, .ref (ad t)), (1, .ref (ad r1)), (2, kI a2)]) (by decide) (fun _ => rfl) (fun v1 h => ?_)
  refine k_sub (lv' := [(0, .ref (ad t)), (1, .ref (ad r1)), (2, kI a2), (3, kI v1)]) [1, 2, 3, 0] rfl ?_
  refine h (fun v3 z4 => kAt p l e (kR 0) s m ([.ref (ad t), .ref (ad r1), kI a2] : List Value).toArray below meth c (MQ below (kQv NC kdC D cA ad Kp) ([.ref (ad t), .ref (ad r1), kI a2] : List Value).toArray s 0 0 (kA NC ad)) 4 NC kdC D cA ad 2 [(0, .ref (ad t)), (1, .ref (ad r1)), (2, kI a2), (3, kI v3)] [] z4) (fun v3 z4 h => ?_)
  refine k_iload_n X dX0_addPerson_2 3 rfl ?_
  refine k_aload_n X dX0_addPerson_3 1 rfl ?_
  refine k_getI X fk_X0_48 hr1 rfl dX0_addPerson_4 ?_
  refine jn_use (fun J5 => ∀ (z6 : Hp), J5 z6 → kAt p l e (kR 0) s m ([.ref (ad t), .ref (ad r1), kI a2] : List Value).toArray below meth c (MQ below (kQv NC kdC D cA ad Kp) ([.ref (ad t), .ref (ad r1), kI a2] : List Value).toArray s 0 0 (kA NC ad)) 4 NC kdC D cA ad 39 [(0, .ref (ad t)), (1, .ref (ad r1)), (2, kI a2)] [] z6) h ?_ (fun J5 hJ5 h => ?_)
  · intro z6 h
    refine k_aload_n X dX0_addPerson_39 0 rfl ?_
    refine k_getR (t := t + 32) X fk_X0_16 ht (by decide) rfl dX0_addPerson_40 ?_
    refine k_aload_n X dX0_addPerson_43 0 rfl ?_
    refine k_getI X fk_X0_41 ht rfl dX0_addPerson_44 ?_
    refine k_aload_n X dX0_addPerson_47 1 rfl ?_
    refine k_getI X fk_X0_48 hr1 rfl dX0_addPerson_48 ?_
    refine k_iast X (kc_0_3 ht) (Nat.le_of_ble_eq_true rfl) dX0_addPerson_51 h (fun h => k_nameH h (fun z7 h => ?_))
    refine k_aload_n X dX0_addPerson_52 0 rfl ?_
    refine k_getR (t := t + 33) X fk_X0_20 ht (by decide) rfl dX0_addPerson_53 ?_
    refine k_aload_n X dX0_addPerson_56 0 rfl ?_
    refine k_getI X fk_X0_41 ht rfl dX0_addPerson_57 ?_
    refine k_iload_n X dX0_addPerson_60 2 rfl ?_
    refine k_iast X (kc_0_4 ht) (Nat.le_of_ble_eq_true rfl) dX0_addPerson_61 h (fun h => k_nameH h (fun z8 h => ?_))
    refine k_aload_n X dX0_addPerson_62 0 rfl ?_
    refine k_dup X dX0_addPerson_63 rfl ?_
    refine k_getI X fk_X0_41 ht rfl dX0_addPerson_64 ?_
    refine k_iconst X dX0_addPerson_67 ?_
    refine k_iadd X dX0_addPerson_68 ?_
    refine k_putI X fp_X0_41 ht rfl dX0_addPerson_69 (k_nameH h (fun z9 h => ?_))
    exact k_vret X hrt hlk dX0_addPerson_72 h
  · refine k_icmp_ge (tgt := 39) X dX0_addPerson_7 (by decide) h (fun h => ?_) (fun h => ?_)
    · exact k_sub [0, 1, 2] rfl (hJ5 _ h)
    · refine k_iload_n X dX0_addPerson_10 3 rfl ?_
      refine k_bipush X dX0_addPerson_11 (by decide +kernel) ?_
      refine k_icmp_ge (tgt := 39) X dX0_addPerson_13 (by decide) ⟨h.1, ⟨by decide, by decide⟩, h.2⟩ (fun h => ?_) (fun h => ?_)
      · exact k_sub [0, 1, 2] rfl (hJ5 _ h)
      · refine k_aload_n X dX0_addPerson_16 0 rfl ?_
        refine k_getR (t := t + 1) X fk_X0_11 ht (by decide) rfl dX0_addPerson_17 ?_
        refine k_aload_n X dX0_addPerson_20 0 rfl ?_
        refine k_getI X fk_X0_41 ht rfl dX0_addPerson_21 ?_
        have hb10 := h.1
        refine k_aald X (kc_0_2 ht) rfl rfl (Nat.le_of_ble_eq_true rfl) dX0_addPerson_24 h (fun h => ?_)
        refine k_iload_n X dX0_addPerson_25 3 rfl ?_
        refine k_aload_n X dX0_addPerson_26 1 rfl ?_
        refine k_getR (t := r1 + 1) X fk_X0_53 hr1 (by decide) rfl dX0_addPerson_27 ?_
        refine k_iload_n X dX0_addPerson_30 3 rfl ?_
        refine k_bald X (kc_5_0 hr1) (klT_le hr1) dX0_addPerson_31 h (fun h => ?_)
        refine k_bast X (kc_r2 (kc_0_2 ht) (ki_lt hb10)) (Nat.le_of_ble_eq_true rfl) dX0_addPerson_32 h (fun h => k_nameH h (fun z11 h => ?_))
        refine k_iinc X dX0_addPerson_33 3 rfl h (fun v12 => [(3, kI v12), (0, .ref (ad t)), (1, .ref (ad r1)), (2, kI a2)]) (by decide) (fun _ => rfl) (fun v12 h => ?_)
        refine k_goto (tgt := 2) X dX0_addPerson_36 (by decide) ?_
        exact k_sub [1, 2, 3, 0] rfl h
set_option maxHeartbeats 4000000 in
set_option maxRecDepth 100000 in
theorem ct_X0_compareNames {l : Launch} {D : va_G} {cA : Nat → ClassId} {ad sa : Nat → Nat} (hj : kInj NC ad) (t : Nat) (ht : kdC t = (0, 0, 11)) (a1 : Int) (a2 : Int) (z : Hp) (Kp : Int → Prop) (h : cal_X0_compareNames t a1 a2 z Kp) : kMet l yX0_compareNames cX0_compareNames 4 (some .int) 0 NC kdC D cA ad sa [.ref (ad t), kI a1, kI a2] z (kQi NC kdC D cA ad (fun v z1 => z1 = z ∧ Kp v)) := by
  unfold cal_X0_compareNames at h
  refine k_met (cc := cX0_compareNames) (own := RX0) (nL := 4) rfl rfl (Nat.le_of_ble_eq_true rfl) hj kltC (fun p e s m below meth c X hrt hlk => ?_)
  refine k_sub (lv' := [(0, .ref (ad t)), (1, kI a1), (2, kI a2)]) [0, 1, 2] rfl ?_
  refine k_iconst X dX0_compareNames_0 ?_
  refine k_istore_n X dX0_compareNames_1 h (fun v1 => [(3, kI v1), (0, .ref (ad t)), (1, kI a1), (2, kI a2)]) (by decide) (fun _ => rfl) (fun v1 h => ?_)
  refine k_sub (lv' := [(0, .ref (ad t)), (1, kI a1), (2, kI a2), (3, kI v1)]) [1, 2, 3, 0] rfl ?_
  refine h (fun v3 => kAt p l e (kR 0) s m ([.ref (ad t), kI a1, kI a2] : List Value).toArray below meth c (MQ below (kQi NC kdC D cA ad (fun v z1 => z1 = z ∧ Kp v)) ([.ref (ad t), kI a1, kI a2] : List Value).toArray s 0 0 (kA NC ad)) 4 NC kdC D cA ad 2 [(0, .ref (ad t)), (1, kI a1), (2, kI a2), (3, kI v3)] [] z) (fun v3 h => ?_)
  refine k_iload_n X dX0_compareNames_2 3 rfl ?_
  refine k_aload_n X dX0_compareNames_3 0 rfl ?_
  refine k_getR (t := t + 32) X fk_X0_16 ht (by decide) rfl dX0_compareNames_4 ?_
  refine k_iload_n X dX0_compareNames_7 1 rfl ?_
  refine k_iald X (kc_0_3 ht) (Nat.le_of_ble_eq_true rfl) dX0_compareNames_8 h (fun h => ?_)
  refine jn_use (fun J4 => J4 → kAt p l e (kR 0) s m ([.ref (ad t), kI a1, kI a2] : List Value).toArray below meth c (MQ below (kQi NC kdC D cA ad (fun v z1 => z1 = z ∧ Kp v)) ([.ref (ad t), kI a1, kI a2] : List Value).toArray s 0 0 (kA NC ad)) 4 NC kdC D cA ad 65 [(0, .ref (ad t)), (1, kI a1), (2, kI a2)] [] z) h ?_ (fun J4 hJ4 h => ?_)
  · intro h
    refine k_aload_n X dX0_compareNames_65 0 rfl ?_
    refine k_getR (t := t + 32) X fk_X0_16 ht (by decide) rfl dX0_compareNames_66 ?_
    refine k_iload_n X dX0_compareNames_69 1 rfl ?_
    refine k_iald X (kc_0_3 ht) (Nat.le_of_ble_eq_true rfl) dX0_compareNames_70 h (fun h => ?_)
    refine k_aload_n X dX0_compareNames_71 0 rfl ?_
    refine k_getR (t := t + 32) X fk_X0_16 ht (by decide) rfl dX0_compareNames_72 ?_
    refine k_iload_n X dX0_compareNames_75 2 rfl ?_
    refine k_iald X (kc_0_3 ht) (Nat.le_of_ble_eq_true rfl) dX0_compareNames_76 h (fun h => ?_)
    refine k_isub X dX0_compareNames_77 ?_
    exact k_iret X hrt hlk dX0_compareNames_78 ⟨rfl, h⟩
  · refine k_icmp_ge (tgt := 65) X dX0_compareNames_9 (by decide) h (fun h => ?_) (fun h => ?_)
    · exact k_sub [0, 1, 2] rfl (hJ4 h)
    · refine k_iload_n X dX0_compareNames_12 3 rfl ?_
      refine k_aload_n X dX0_compareNames_13 0 rfl ?_
      refine k_getR (t := t + 32) X fk_X0_16 ht (by decide) rfl dX0_compareNames_14 ?_
      refine k_iload_n X dX0_compareNames_17 2 rfl ?_
      refine k_iald X (kc_0_3 ht) (Nat.le_of_ble_eq_true rfl) dX0_compareNames_18 h (fun h => ?_)
      refine k_icmp_ge (tgt := 65) X dX0_compareNames_19 (by decide) h (fun h => ?_) (fun h => ?_)
      · exact k_sub [0, 1, 2] rfl (hJ4 h)
      · refine k_aload_n X dX0_compareNames_22 0 rfl ?_
        refine k_getR (t := t + 1) X fk_X0_11 ht (by decide) rfl dX0_compareNames_23 ?_
        refine k_iload_n X dX0_compareNames_26 1 rfl ?_
        have hb5 := h.1
        refine k_aald X (kc_0_2 ht) rfl rfl (Nat.le_of_ble_eq_true rfl) dX0_compareNames_27 h (fun h => ?_)
        refine k_iload_n X dX0_compareNames_28 3 rfl ?_
        refine k_bald X (kc_r2 (kc_0_2 ht) (ki_lt hb5)) (Nat.le_of_ble_eq_true rfl) dX0_compareNames_29 h (fun h => ?_)
        refine k_aload_n X dX0_compareNames_30 0 rfl ?_
        refine k_getR (t := t + 1) X fk_X0_11 ht (by decide) rfl dX0_compareNames_31 ?_
        refine k_iload_n X dX0_compareNames_34 2 rfl ?_
        have hb6 := h.1
        refine k_aald X (kc_0_2 ht) rfl rfl (Nat.le_of_ble_eq_true rfl) dX0_compareNames_35 h (fun h => ?_)
        refine k_iload_n X dX0_compareNames_36 3 rfl ?_
        refine k_bald X (kc_r2 (kc_0_2 ht) (ki_lt hb6)) (Nat.le_of_ble_eq_true rfl) dX0_compareNames_37 h (fun h => ?_)
        refine k_icmp_eq (tgt := 59) X dX0_compareNames_38 (by decide) h (fun h => ?_) (fun h => ?_)
        · refine k_iinc X dX0_compareNames_59 3 rfl h (fun v7 => [(3, kI v7), (0, .ref (ad t)), (1, kI a1), (2, kI a2)]) (by decide) (fun _ => rfl) (fun v7 h => ?_)
          refine k_goto (tgt := 2) X dX0_compareNames_62 (by decide) ?_
          exact k_sub [1, 2, 3, 0] rfl h
        · refine k_aload_n X dX0_compareNames_41 0 rfl ?_
          refine k_getR (t := t + 1) X fk_X0_11 ht (by decide) rfl dX0_compareNames_42 ?_
          refine k_iload_n X dX0_compareNames_45 1 rfl ?_
          have hb8 := h.1
          refine k_aald X (kc_0_2 ht) rfl rfl (Nat.le_of_ble_eq_true rfl) dX0_compareNames_46 h (fun h => ?_)
          refine k_iload_n X dX0_compareNames_47 3 rfl ?_
          refine k_bald X (kc_r2 (kc_0_2 ht) (ki_lt hb8)) (Nat.le_of_ble_eq_true rfl) dX0_compareNames_48 h (fun h => ?_)
          refine k_aload_n X dX0_compareNames_49 0 rfl ?_
          refine k_getR (t := t + 1) X fk_X0_11 ht (by decide) rfl dX0_compareNames_50 ?_
          refine k_iload_n X dX0_compareNames_53 2 rfl ?_
          have hb9 := h.1
          refine k_aald X (kc_0_2 ht) rfl rfl (Nat.le_of_ble_eq_true rfl) dX0_compareNames_54 h (fun h => ?_)
          refine k_iload_n X dX0_compareNames_55 3 rfl ?_
          refine k_bald X (kc_r2 (kc_0_2 ht) (ki_lt hb9)) (Nat.le_of_ble_eq_true rfl) dX0_compareNames_56 h (fun h => ?_)
          refine k_isub X dX0_compareNames_57 ?_
          exact k_iret X hrt hlk dX0_compareNames_58 ⟨rfl, h⟩
set_option maxHeartbeats 4000000 in
set_option maxRecDepth 100000 in
theorem ct_X0_copyFrom {l : Launch} {D : va_G} {cA : Nat → ClassId} {ad sa : Nat → Nat} (hj : kInj NC ad) (t : Nat) (ht : kdC t = (0, 0, 11)) (r1 : Nat) (hr1 : kdC r1 = (0, 0, 11)) (z : Hp) (Kp : Hp → Prop) (h : cal_X0_copyFrom t r1 z Kp) : kMet l yX0_copyFrom cX0_copyFrom 3 none 1 NC kdC D cA ad sa [.ref (ad t), .ref (ad r1)] z (kQv NC kdC D cA ad Kp) := by
  unfold cal_X0_copyFrom at h
  refine k_met (cc := cX0_copyFrom) (own := RX0) (nL := 3) rfl rfl (Nat.le_of_ble_eq_true rfl) hj kltC (fun p e s m below meth c X hrt hlk => ?_)
  refine k_sub (lv' := [(0, .ref (ad t)), (1, .ref (ad r1))]) [0, 1] rfl ?_
  refine k_aload_n X dX0_copyFrom_0 0 rfl ?_
  refine k_aload_n X dX0_copyFrom_1 1 rfl ?_
  refine k_getI X fk_X0_41 hr1 rfl dX0_copyFrom_2 ?_
  refine k_putI X fp_X0_41 ht rfl dX0_copyFrom_5 (k_nameH h (fun z1 h => ?_))
  refine k_aload_n X dX0_copyFrom_8 0 rfl ?_
  refine k_aload_n X dX0_copyFrom_9 1 rfl ?_
  refine k_getI X fk_X0_45 hr1 rfl dX0_copyFrom_10 ?_
  refine k_putI X fp_X0_45 ht rfl dX0_copyFrom_13 (k_nameH h (fun z2 h => ?_))
  refine k_iconst X dX0_copyFrom_16 ?_
  refine k_istore_n X dX0_copyFrom_17 h (fun v3 => [(2, kI v3), (0, .ref (ad t)), (1, .ref (ad r1))]) (by decide) (fun _ => rfl) (fun v3 h => ?_)
  refine k_sub (lv' := [(0, .ref (ad t)), (1, .ref (ad r1)), (2, kI v3)]) [1, 2, 0] rfl ?_
  refine h (fun v5 z6 => kAt p l e (kR 1) s m ([.ref (ad t), .ref (ad r1)] : List Value).toArray below meth c (MQ below (kQv NC kdC D cA ad Kp) ([.ref (ad t), .ref (ad r1)] : List Value).toArray s 0 0 (kA NC ad)) 3 NC kdC D cA ad 18 [(0, .ref (ad t)), (1, .ref (ad r1)), (2, kI v5)] [] z6) (fun v5 z6 h => ?_)
  refine k_iload_n X dX0_copyFrom_18 2 rfl ?_
  refine k_bipush X dX0_copyFrom_19 (by decide +kernel) ?_
  refine k_icmp_ge (tgt := 49) X dX0_copyFrom_21 (by decide) ⟨h.1, ⟨by decide, by decide⟩, h.2⟩ (fun h => ?_) (fun h => ?_)
  · refine k_aload_n X dX0_copyFrom_49 1 rfl ?_
    refine k_getR (t := r1 + 32) X fk_X0_16 hr1 (by decide) rfl dX0_copyFrom_50 ?_
    refine k_iconst X dX0_copyFrom_53 ?_
    refine k_aload_n X dX0_copyFrom_54 0 rfl ?_
    refine k_getR (t := t + 32) X fk_X0_16 ht (by decide) rfl dX0_copyFrom_55 ?_
    refine k_iconst X dX0_copyFrom_58 ?_
    refine k_bipush X dX0_copyFrom_59 (by decide +kernel) ?_
    refine k_acpi (k := 30) X mw853 mw469 mw468 mw17 (kc_0_3 hr1) (kc_0_3 ht) (by decide) (by decide) (kR_one (by decide)) (Nat.le_of_ble_eq_true rfl) dX0_copyFrom_61 (k_nameH h (fun z7 h => ?_))
    refine k_aload_n X dX0_copyFrom_64 1 rfl ?_
    refine k_getR (t := r1 + 33) X fk_X0_20 hr1 (by decide) rfl dX0_copyFrom_65 ?_
    refine k_iconst X dX0_copyFrom_68 ?_
    refine k_aload_n X dX0_copyFrom_69 0 rfl ?_
    refine k_getR (t := t + 33) X fk_X0_20 ht (by decide) rfl dX0_copyFrom_70 ?_
    refine k_iconst X dX0_copyFrom_73 ?_
    refine k_bipush X dX0_copyFrom_74 (by decide +kernel) ?_
    refine k_acpi (k := 30) X mw853 mw469 mw468 mw17 (kc_0_4 hr1) (kc_0_4 ht) (by decide) (by decide) (kR_one (by decide)) (Nat.le_of_ble_eq_true rfl) dX0_copyFrom_76 (k_nameH h (fun z8 h => ?_))
    refine k_aload_n X dX0_copyFrom_79 1 rfl ?_
    refine k_getR (t := r1 + 34) X fk_X0_23 hr1 (by decide) rfl dX0_copyFrom_80 ?_
    refine k_iconst X dX0_copyFrom_83 ?_
    refine k_aload_n X dX0_copyFrom_84 0 rfl ?_
    refine k_getR (t := t + 34) X fk_X0_23 ht (by decide) rfl dX0_copyFrom_85 ?_
    refine k_iconst X dX0_copyFrom_88 ?_
    refine k_bipush X dX0_copyFrom_89 (by decide +kernel) ?_
    refine k_acpi (k := 60) X mw853 mw469 mw468 mw17 (kc_0_5 hr1) (kc_0_5 ht) (by decide) (by decide) (kR_one (by decide)) (Nat.le_of_ble_eq_true rfl) dX0_copyFrom_91 (k_nameH h (fun z9 h => ?_))
    refine k_aload_n X dX0_copyFrom_94 1 rfl ?_
    refine k_getR (t := r1 + 35) X fk_X0_26 hr1 (by decide) rfl dX0_copyFrom_95 ?_
    refine k_iconst X dX0_copyFrom_98 ?_
    refine k_aload_n X dX0_copyFrom_99 0 rfl ?_
    refine k_getR (t := t + 35) X fk_X0_26 ht (by decide) rfl dX0_copyFrom_100 ?_
    refine k_iconst X dX0_copyFrom_103 ?_
    refine k_bipush X dX0_copyFrom_104 (by decide +kernel) ?_
    refine k_acpi (k := 60) X mw853 mw469 mw468 mw17 (kc_0_6 hr1) (kc_0_6 ht) (by decide) (by decide) (kR_one (by decide)) (Nat.le_of_ble_eq_true rfl) dX0_copyFrom_106 (k_nameH h (fun z10 h => ?_))
    refine k_aload_n X dX0_copyFrom_109 1 rfl ?_
    refine k_getR (t := r1 + 36) X fk_X0_29 hr1 (by decide) rfl dX0_copyFrom_110 ?_
    refine k_iconst X dX0_copyFrom_113 ?_
    refine k_aload_n X dX0_copyFrom_114 0 rfl ?_
    refine k_getR (t := t + 36) X fk_X0_29 ht (by decide) rfl dX0_copyFrom_115 ?_
    refine k_iconst X dX0_copyFrom_118 ?_
    refine k_bipush X dX0_copyFrom_119 (by decide +kernel) ?_
    refine k_acpi (k := 60) X mw853 mw469 mw468 mw17 (kc_0_7 hr1) (kc_0_7 ht) (by decide) (by decide) (kR_one (by decide)) (Nat.le_of_ble_eq_true rfl) dX0_copyFrom_121 (k_nameH h (fun z11 h => ?_))
    refine k_aload_n X dX0_copyFrom_124 1 rfl ?_
    refine k_getR (t := r1 + 37) X fk_X0_32 hr1 (by decide) rfl dX0_copyFrom_125 ?_
    refine k_iconst X dX0_copyFrom_128 ?_
    refine k_aload_n X dX0_copyFrom_129 0 rfl ?_
    refine k_getR (t := t + 37) X fk_X0_32 ht (by decide) rfl dX0_copyFrom_130 ?_
    refine k_iconst X dX0_copyFrom_133 ?_
    refine k_bipush X dX0_copyFrom_134 (by decide +kernel) ?_
    refine k_acpi (k := 60) X mw853 mw469 mw468 mw17 (kc_0_8 hr1) (kc_0_8 ht) (by decide) (by decide) (kR_one (by decide)) (Nat.le_of_ble_eq_true rfl) dX0_copyFrom_136 (k_nameH h (fun z12 h => ?_))
    refine k_aload_n X dX0_copyFrom_139 1 rfl ?_
    refine k_getR (t := r1 + 38) X fk_X0_35 hr1 (by decide) rfl dX0_copyFrom_140 ?_
    refine k_iconst X dX0_copyFrom_143 ?_
    refine k_aload_n X dX0_copyFrom_144 0 rfl ?_
    refine k_getR (t := t + 38) X fk_X0_35 ht (by decide) rfl dX0_copyFrom_145 ?_
    refine k_iconst X dX0_copyFrom_148 ?_
    refine k_bipush X dX0_copyFrom_149 (by decide +kernel) ?_
    refine k_acpi (k := 60) X mw853 mw469 mw468 mw17 (kc_0_9 hr1) (kc_0_9 ht) (by decide) (by decide) (kR_one (by decide)) (Nat.le_of_ble_eq_true rfl) dX0_copyFrom_151 (k_nameH h (fun z13 h => ?_))
    refine k_aload_n X dX0_copyFrom_154 1 rfl ?_
    refine k_getR (t := r1 + 39) X fk_X0_38 hr1 (by decide) rfl dX0_copyFrom_155 ?_
    refine k_iconst X dX0_copyFrom_158 ?_
    refine k_aload_n X dX0_copyFrom_159 0 rfl ?_
    refine k_getR (t := t + 39) X fk_X0_38 ht (by decide) rfl dX0_copyFrom_160 ?_
    refine k_iconst X dX0_copyFrom_163 ?_
    refine k_bipush X dX0_copyFrom_164 (by decide +kernel) ?_
    refine k_acpi (k := 60) X mw853 mw469 mw468 mw17 (kc_0_10 hr1) (kc_0_10 ht) (by decide) (by decide) (kR_one (by decide)) (Nat.le_of_ble_eq_true rfl) dX0_copyFrom_166 (k_nameH h (fun z14 h => ?_))
    exact k_vret X hrt hlk dX0_copyFrom_169 h
  · refine k_aload_n X dX0_copyFrom_24 1 rfl ?_
    refine k_getR (t := r1 + 1) X fk_X0_11 hr1 (by decide) rfl dX0_copyFrom_25 ?_
    refine k_iload_n X dX0_copyFrom_28 2 rfl ?_
    have hb15 := h.1
    refine k_aald X (kc_0_2 hr1) rfl rfl (Nat.le_of_ble_eq_true rfl) dX0_copyFrom_29 h (fun h => ?_)
    refine k_iconst X dX0_copyFrom_30 ?_
    refine k_aload_n X dX0_copyFrom_31 0 rfl ?_
    refine k_getR (t := t + 1) X fk_X0_11 ht (by decide) rfl dX0_copyFrom_32 ?_
    refine k_iload_n X dX0_copyFrom_35 2 rfl ?_
    have hb16 := h.1
    refine k_aald X (kc_0_2 ht) rfl rfl (Nat.le_of_ble_eq_true rfl) dX0_copyFrom_36 h (fun h => ?_)
    refine k_iconst X dX0_copyFrom_37 ?_
    refine k_bipush X dX0_copyFrom_38 (by decide +kernel) ?_
    obtain ⟨hb19, h⟩ := h
    refine k_acpb (k := 7) X mw853 mw469 mw468 mw17 (kc_r2 (kc_0_2 hr1) (ki_lt hb15)) (kc_r2 (kc_0_2 ht) (ki_lt hb16)) (by decide) (by decide) hb19 (kR_one (by decide)) (Nat.le_of_ble_eq_true rfl) dX0_copyFrom_40 (k_nameH h (fun z17 h => ?_))
    refine k_iinc X dX0_copyFrom_43 2 rfl h (fun v18 => [(2, kI v18), (0, .ref (ad t)), (1, .ref (ad r1))]) (by decide) (fun _ => rfl) (fun v18 h => ?_)
    refine k_goto (tgt := 18) X dX0_copyFrom_46 (by decide) ?_
    exact k_sub [1, 2, 0] rfl h
set_option maxHeartbeats 4000000 in
set_option maxRecDepth 100000 in
theorem ct_X5_at {l : Launch} {D : va_G} {cA : Nat → ClassId} {ad sa : Nat → Nat} (hj : kInj NC ad) (t : Nat) (ht : kdC t = (0, 5, 2)) (a1 : Int) (z : Hp) (Kp : Int → Prop) (h : cal_X5_at t a1 z Kp) : kMet l yX5_at cX5_at 2 (some .int) 0 NC kdC D cA ad sa [.ref (ad t), kI a1] z (kQi NC kdC D cA ad (fun v z1 => z1 = z ∧ Kp v)) := by
  unfold cal_X5_at at h
  refine k_met (cc := cX5_at) (own := RX5) (nL := 2) rfl rfl (Nat.le_of_ble_eq_true rfl) hj kltC (fun p e s m below meth c X hrt hlk => ?_)
  refine k_sub (lv' := [(0, .ref (ad t)), (1, kI a1)]) [0, 1] rfl ?_
  refine k_iload_n X dX5_at_0 1 rfl ?_
  refine k_if_lt (tgt := 21) X dX5_at_1 (by decide) h (fun h => ?_) (fun h => ?_)
  · refine k_iconst X dX5_at_21 ?_
    exact k_iret X hrt hlk dX5_at_22 ⟨rfl, h⟩
  · refine k_iload_n X dX5_at_4 1 rfl ?_
    refine k_aload_n X dX5_at_5 0 rfl ?_
    refine k_getI X fk_X5_15 ht rfl dX5_at_6 ?_
    refine k_icmp_ge (tgt := 21) X dX5_at_9 (by decide) h (fun h => ?_) (fun h => ?_)
    · refine k_iconst X dX5_at_21 ?_
      exact k_iret X hrt hlk dX5_at_22 ⟨rfl, h⟩
    · refine k_aload_n X dX5_at_12 0 rfl ?_
      refine k_getR (t := t + 1) X fk_X5_9 ht (by decide) rfl dX5_at_13 ?_
      refine k_iload_n X dX5_at_16 1 rfl ?_
      refine k_bald X (kc_5_0 ht) (klT_le ht) dX5_at_17 h (fun h => ?_)
      refine k_goto (tgt := 22) X dX5_at_18 (by decide) ?_
      exact k_iret X hrt hlk dX5_at_22 ⟨rfl, h⟩
set_option maxHeartbeats 4000000 in
set_option maxRecDepth 100000 in
theorem ct_X0_isNamed {l : Launch} {D : va_G} {cA : Nat → ClassId} {ad sa : Nat → Nat} (hj : kInj NC ad) (t : Nat) (ht : kdC t = (0, 0, 11)) (a1 : Int) (r2 : Nat) (hr2 : kdC r2 = (0, 5, 2)) (z : Hp) (Kp : Int → Prop) (h : cal_X0_isNamed t a1 r2 z Kp) : kMet l yX0_isNamed cX0_isNamed 4 (some .boolean) 1 NC kdC D cA ad sa [.ref (ad t), kI a1, .ref (ad r2)] z (kQi NC kdC D cA ad (fun v z1 => z1 = z ∧ Kp v)) := by
  unfold cal_X0_isNamed at h
  refine k_met (cc := cX0_isNamed) (own := RX0) (nL := 4) rfl rfl (Nat.le_of_ble_eq_true rfl) hj kltC (fun p e s m below meth c X hrt hlk => ?_)
  refine k_sub (lv' := [(0, .ref (ad t)), (1, kI a1), (2, .ref (ad r2))]) [0, 1, 2] rfl ?_
  refine k_aload_n X dX0_isNamed_0 0 rfl ?_
  refine k_getR (t := t + 32) X fk_X0_16 ht (by decide) rfl dX0_isNamed_1 ?_
  refine k_iload_n X dX0_isNamed_4 1 rfl ?_
  refine k_iald X (kc_0_3 ht) (Nat.le_of_ble_eq_true rfl) dX0_isNamed_5 h (fun h => ?_)
  refine k_aload_n X dX0_isNamed_6 2 rfl ?_
  refine k_getI X fk_X0_48 hr2 rfl dX0_isNamed_7 ?_
  refine k_icmp_eq (tgt := 15) X dX0_isNamed_10 (by decide) h (fun h => ?_) (fun h => ?_)
  · refine k_iconst X dX0_isNamed_15 ?_
    refine k_istore_n X dX0_isNamed_16 h (fun v1 => [(3, kI v1), (0, .ref (ad t)), (1, kI a1), (2, .ref (ad r2))]) (by decide) (fun _ => rfl) (fun v1 h => ?_)
    refine k_sub (lv' := [(0, .ref (ad t)), (1, kI a1), (2, .ref (ad r2)), (3, kI v1)]) [1, 2, 3, 0] rfl ?_
    refine h (fun v3 => kAt p l e (kR 1) s m ([.ref (ad t), kI a1, .ref (ad r2)] : List Value).toArray below meth c (MQ below (kQi NC kdC D cA ad (fun v z1 => z1 = z ∧ Kp v)) ([.ref (ad t), kI a1, .ref (ad r2)] : List Value).toArray s 0 0 (kA NC ad)) 4 NC kdC D cA ad 17 [(0, .ref (ad t)), (1, kI a1), (2, .ref (ad r2)), (3, kI v3)] [] z) (fun v3 h => ?_)
    refine k_iload_n X dX0_isNamed_17 3 rfl ?_
    refine k_aload_n X dX0_isNamed_18 0 rfl ?_
    refine k_getR (t := t + 32) X fk_X0_16 ht (by decide) rfl dX0_isNamed_19 ?_
    refine k_iload_n X dX0_isNamed_22 1 rfl ?_
    refine k_iald X (kc_0_3 ht) (Nat.le_of_ble_eq_true rfl) dX0_isNamed_23 h (fun h => ?_)
    refine k_icmp_ge (tgt := 51) X dX0_isNamed_24 (by decide) h (fun h => ?_) (fun h => ?_)
    · refine k_iconst X dX0_isNamed_51 ?_
      exact k_zret X hrt hlk dX0_isNamed_52 ⟨Or.inr rfl, ⟨rfl, h⟩⟩
    · refine k_aload_n X dX0_isNamed_27 0 rfl ?_
      refine k_getR (t := t + 1) X fk_X0_11 ht (by decide) rfl dX0_isNamed_28 ?_
      refine k_iload_n X dX0_isNamed_31 1 rfl ?_
      have hb4 := h.1
      refine k_aald X (kc_0_2 ht) rfl rfl (Nat.le_of_ble_eq_true rfl) dX0_isNamed_32 h (fun h => ?_)
      refine k_iload_n X dX0_isNamed_33 3 rfl ?_
      refine k_bald X (kc_r2 (kc_0_2 ht) (ki_lt hb4)) (Nat.le_of_ble_eq_true rfl) dX0_isNamed_34 h (fun h => ?_)
      refine k_aload_n X dX0_isNamed_35 2 rfl ?_
      refine k_iload_n X dX0_isNamed_36 3 rfl ?_
      refine k_afterP (st := [kI (z (t + 1 + 1 + a1.toNat) v3.toNat)]) (fun H locs ls hP hS hl => k_runV (As := [kI v3]) X lk_X0_99 rfl yo_X5_at rfl (kR_ok (by decide) (by decide)) (ct_X5_at (kCx_j X) r2 hr2 _ _ _ h) hr2 rfl (Nat.le_of_ble_eq_true rfl) dX0_isNamed_37 hP hS hl) (fun v5 h => ?_)
      refine k_icmp_eq (tgt := 45) X dX0_isNamed_40 (by decide) h (fun h => ?_) (fun h => ?_)
      · refine k_iinc X dX0_isNamed_45 3 rfl h (fun v6 => [(3, kI v6), (0, .ref (ad t)), (1, kI a1), (2, .ref (ad r2))]) (by decide) (fun _ => rfl) (fun v6 h => ?_)
        refine k_goto (tgt := 17) X dX0_isNamed_48 (by decide) ?_
        exact k_sub [1, 2, 3, 0] rfl h
      · refine k_iconst X dX0_isNamed_43 ?_
        exact k_zret X hrt hlk dX0_isNamed_44 ⟨Or.inl rfl, ⟨rfl, h⟩⟩
  · refine k_iconst X dX0_isNamed_13 ?_
    exact k_zret X hrt hlk dX0_isNamed_14 ⟨Or.inl rfl, ⟨rfl, h⟩⟩
set_option maxHeartbeats 4000000 in
set_option maxRecDepth 100000 in
theorem ct_X0_findNamed {l : Launch} {D : va_G} {cA : Nat → ClassId} {ad sa : Nat → Nat} (hj : kInj NC ad) (t : Nat) (ht : kdC t = (0, 0, 11)) (r1 : Nat) (hr1 : kdC r1 = (0, 5, 2)) (a2 : Int) (z : Hp) (Kp : Int → Prop) (h : cal_X0_findNamed t r1 a2 z Kp) : kMet l yX0_findNamed cX0_findNamed 5 (some .int) 2 NC kdC D cA ad sa [.ref (ad t), .ref (ad r1), kI a2] z (kQi NC kdC D cA ad (fun v z1 => z1 = z ∧ Kp v)) := by
  unfold cal_X0_findNamed at h
  refine k_met (cc := cX0_findNamed) (own := RX0) (nL := 5) rfl rfl (Nat.le_of_ble_eq_true rfl) hj kltC (fun p e s m below meth c X hrt hlk => ?_)
  refine k_sub (lv' := [(0, .ref (ad t)), (1, .ref (ad r1)), (2, kI a2)]) [0, 1, 2] rfl ?_
  refine k_iconst X dX0_findNamed_0 ?_
  refine k_istore_n X dX0_findNamed_1 h (fun v1 => [(3, kI v1), (0, .ref (ad t)), (1, .ref (ad r1)), (2, kI a2)]) (by decide) (fun _ => rfl) (fun v1 h => ?_)
  refine k_iconst X dX0_findNamed_2 ?_
  refine k_istore X dX0_findNamed_3 h (fun v2 => [(4, kI v2), (3, kI v1), (0, .ref (ad t)), (1, .ref (ad r1)), (2, kI a2)]) (by decide) (fun _ => rfl) (fun v2 h => ?_)
  refine k_sub (lv' := [(0, .ref (ad t)), (1, .ref (ad r1)), (2, kI a2), (3, kI v1), (4, kI v2)]) [2, 3, 4, 1, 0] rfl ?_
  refine h (fun v4 v5 => kAt p l e (kR 2) s m ([.ref (ad t), .ref (ad r1), kI a2] : List Value).toArray below meth c (MQ below (kQi NC kdC D cA ad (fun v z1 => z1 = z ∧ Kp v)) ([.ref (ad t), .ref (ad r1), kI a2] : List Value).toArray s 0 0 (kA NC ad)) 5 NC kdC D cA ad 5 [(0, .ref (ad t)), (1, .ref (ad r1)), (2, kI a2), (3, kI v4), (4, kI v5)] [] z) (fun v4 v5 h => ?_)
  refine k_iload X dX0_findNamed_5 4 rfl ?_
  refine k_aload_n X dX0_findNamed_7 0 rfl ?_
  refine k_getI X fk_X0_41 ht rfl dX0_findNamed_8 ?_
  refine k_icmp_ge (tgt := 41) X dX0_findNamed_11 (by decide) h (fun h => ?_) (fun h => ?_)
  · refine k_bipush X dX0_findNamed_41 (by decide +kernel) ?_
    exact k_iret X hrt hlk dX0_findNamed_43 ⟨rfl, h⟩
  · refine k_aload_n X dX0_findNamed_14 0 rfl ?_
    refine k_iload X dX0_findNamed_15 4 rfl ?_
    refine k_aload_n X dX0_findNamed_17 1 rfl ?_
    refine k_afterP (st := []) (fun H locs ls hP hS hl => k_runV (As := [kI v5, .ref (ad r1)]) X lk_X0_95 rfl yo_X0_isNamed rfl (kR_ok (by decide) (by decide)) (ct_X0_isNamed (kCx_j X) t ht _ r1 hr1 _ _ h) ht rfl (Nat.le_of_ble_eq_true rfl) dX0_findNamed_18 hP hS hl) (fun v6 h => ?_)
    refine jn_use (fun J8 => ∀ (v7 : Int), J8 v7 → kAt p l e (kR 2) s m ([.ref (ad t), .ref (ad r1), kI a2] : List Value).toArray below meth c (MQ below (kQi NC kdC D cA ad (fun v z1 => z1 = z ∧ Kp v)) ([.ref (ad t), .ref (ad r1), kI a2] : List Value).toArray s 0 0 (kA NC ad)) 5 NC kdC D cA ad 35 [(0, .ref (ad t)), (1, .ref (ad r1)), (2, kI a2), (3, kI v7), (4, kI v5)] [] z) h ?_ (fun J8 hJ8 h => ?_)
    · intro v7 h
      refine k_iinc X dX0_findNamed_35 4 rfl h (fun v9 => [(4, kI v9), (0, .ref (ad t)), (1, .ref (ad r1)), (2, kI a2), (3, kI v7)]) (by decide) (fun _ => rfl) (fun v9 h => ?_)
      refine k_goto (tgt := 5) X dX0_findNamed_38 (by decide) ?_
      exact k_sub [1, 2, 3, 4, 0] rfl h
    · refine k_if_eq (tgt := 35) X dX0_findNamed_21 (by decide) h (fun h => ?_) (fun h => ?_)
      · exact k_sub [0, 1, 2, 3, 4] rfl (hJ8 _ h)
      · refine k_iload_n X dX0_findNamed_24 3 rfl ?_
        refine k_iload_n X dX0_findNamed_25 2 rfl ?_
        refine k_icmp_ne (tgt := 32) X dX0_findNamed_26 (by decide) h (fun h => ?_) (fun h => ?_)
        · refine k_iinc X dX0_findNamed_32 3 rfl h (fun v10 => [(3, kI v10), (0, .ref (ad t)), (1, .ref (ad r1)), (2, kI a2), (4, kI v5)]) (by decide) (fun _ => rfl) (fun v10 h => ?_)
          exact k_sub [1, 2, 3, 0, 4] rfl (hJ8 _ h)
        · refine k_iload X dX0_findNamed_29 4 rfl ?_
          exact k_iret X hrt hlk dX0_findNamed_31 ⟨rfl, h⟩
set_option maxHeartbeats 4000000 in
set_option maxRecDepth 100000 in
theorem ct_X0_isPerson {l : Launch} {D : va_G} {cA : Nat → ClassId} {ad sa : Nat → Nat} (hj : kInj NC ad) (t : Nat) (ht : kdC t = (0, 0, 11)) (a1 : Int) (z : Hp) (Kp : Int → Prop) (h : cal_X0_isPerson t a1 z Kp) : kMet l yX0_isPerson cX0_isPerson 2 (some .boolean) 0 NC kdC D cA ad sa [.ref (ad t), kI a1] z (kQi NC kdC D cA ad (fun v z1 => z1 = z ∧ Kp v)) := by
  unfold cal_X0_isPerson at h
  refine k_met (cc := cX0_isPerson) (own := RX0) (nL := 2) rfl rfl (Nat.le_of_ble_eq_true rfl) hj kltC (fun p e s m below meth c X hrt hlk => ?_)
  refine k_sub (lv' := [(0, .ref (ad t)), (1, kI a1)]) [0, 1] rfl ?_
  refine k_iload_n X dX0_isPerson_0 1 rfl ?_
  refine k_if_lt (tgt := 16) X dX0_isPerson_1 (by decide) h (fun h => ?_) (fun h => ?_)
  · refine k_iconst X dX0_isPerson_16 ?_
    exact k_zret X hrt hlk dX0_isPerson_17 ⟨Or.inl rfl, ⟨rfl, h⟩⟩
  · refine k_iload_n X dX0_isPerson_4 1 rfl ?_
    refine k_aload_n X dX0_isPerson_5 0 rfl ?_
    refine k_getI X fk_X0_41 ht rfl dX0_isPerson_6 ?_
    refine k_icmp_ge (tgt := 16) X dX0_isPerson_9 (by decide) h (fun h => ?_) (fun h => ?_)
    · refine k_iconst X dX0_isPerson_16 ?_
      exact k_zret X hrt hlk dX0_isPerson_17 ⟨Or.inl rfl, ⟨rfl, h⟩⟩
    · refine k_iconst X dX0_isPerson_12 ?_
      refine k_goto (tgt := 17) X dX0_isPerson_13 (by decide) ?_
      exact k_zret X hrt hlk dX0_isPerson_17 ⟨Or.inr rfl, ⟨rfl, h⟩⟩
set_option maxHeartbeats 4000000 in
set_option maxRecDepth 100000 in
theorem ct_X0_isStatement {l : Launch} {D : va_G} {cA : Nat → ClassId} {ad sa : Nat → Nat} (hj : kInj NC ad) (t : Nat) (ht : kdC t = (0, 0, 11)) (a1 : Int) (z : Hp) (Kp : Int → Prop) (h : cal_X0_isStatement t a1 z Kp) : kMet l yX0_isStatement cX0_isStatement 2 (some .boolean) 0 NC kdC D cA ad sa [.ref (ad t), kI a1] z (kQi NC kdC D cA ad (fun v z1 => z1 = z ∧ Kp v)) := by
  unfold cal_X0_isStatement at h
  refine k_met (cc := cX0_isStatement) (own := RX0) (nL := 2) rfl rfl (Nat.le_of_ble_eq_true rfl) hj kltC (fun p e s m below meth c X hrt hlk => ?_)
  refine k_sub (lv' := [(0, .ref (ad t)), (1, kI a1)]) [0, 1] rfl ?_
  refine k_iload_n X dX0_isStatement_0 1 rfl ?_
  refine k_if_lt (tgt := 16) X dX0_isStatement_1 (by decide) h (fun h => ?_) (fun h => ?_)
  · refine k_iconst X dX0_isStatement_16 ?_
    exact k_zret X hrt hlk dX0_isStatement_17 ⟨Or.inl rfl, ⟨rfl, h⟩⟩
  · refine k_iload_n X dX0_isStatement_4 1 rfl ?_
    refine k_aload_n X dX0_isStatement_5 0 rfl ?_
    refine k_getI X fk_X0_45 ht rfl dX0_isStatement_6 ?_
    refine k_icmp_ge (tgt := 16) X dX0_isStatement_9 (by decide) h (fun h => ?_) (fun h => ?_)
    · refine k_iconst X dX0_isStatement_16 ?_
      exact k_zret X hrt hlk dX0_isStatement_17 ⟨Or.inl rfl, ⟨rfl, h⟩⟩
    · refine k_iconst X dX0_isStatement_12 ?_
      refine k_goto (tgt := 17) X dX0_isStatement_13 (by decide) ?_
      exact k_zret X hrt hlk dX0_isStatement_17 ⟨Or.inr rfl, ⟨rfl, h⟩⟩
set_option maxHeartbeats 4000000 in
set_option maxRecDepth 100000 in
theorem ct_X0_placeByName {l : Launch} {D : va_G} {cA : Nat → ClassId} {ad sa : Nat → Nat} (hj : kInj NC ad) (t : Nat) (ht : kdC t = (0, 0, 11)) (a1 : Int) (z : Hp) (Kp : Int → Prop) (h : cal_X0_placeByName t a1 z Kp) : kMet l yX0_placeByName cX0_placeByName 5 (some .int) 1 NC kdC D cA ad sa [.ref (ad t), kI a1] z (kQi NC kdC D cA ad (fun v z1 => z1 = z ∧ Kp v)) := by
  unfold cal_X0_placeByName at h
  refine k_met (cc := cX0_placeByName) (own := RX0) (nL := 5) rfl rfl (Nat.le_of_ble_eq_true rfl) hj kltC (fun p e s m below meth c X hrt hlk => ?_)
  refine k_sub (lv' := [(0, .ref (ad t)), (1, kI a1)]) [0, 1] rfl ?_
  refine k_iconst X dX0_placeByName_0 ?_
  refine k_istore_n X dX0_placeByName_1 h (fun v1 => [(2, kI v1), (0, .ref (ad t)), (1, kI a1)]) (by decide) (fun _ => rfl) (fun v1 h => ?_)
  refine k_iconst X dX0_placeByName_2 ?_
  refine k_istore_n X dX0_placeByName_3 h (fun v2 => [(3, kI v2), (2, kI v1), (0, .ref (ad t)), (1, kI a1)]) (by decide) (fun _ => rfl) (fun v2 h => ?_)
  refine k_sub (lv' := [(0, .ref (ad t)), (1, kI a1), (2, kI v1), (3, kI v2)]) [2, 3, 1, 0] rfl ?_
  refine h (fun v4 v5 => kAt p l e (kR 1) s m ([.ref (ad t), kI a1] : List Value).toArray below meth c (MQ below (kQi NC kdC D cA ad (fun v z1 => z1 = z ∧ Kp v)) ([.ref (ad t), kI a1] : List Value).toArray s 0 0 (kA NC ad)) 5 NC kdC D cA ad 4 [(0, .ref (ad t)), (1, kI a1), (2, kI v4), (3, kI v5)] [] z) (fun v4 v5 h => ?_)
  refine k_iload_n X dX0_placeByName_4 3 rfl ?_
  refine k_aload_n X dX0_placeByName_5 0 rfl ?_
  refine k_getI X fk_X0_41 ht rfl dX0_placeByName_6 ?_
  refine k_icmp_ge (tgt := 44) X dX0_placeByName_9 (by decide) h (fun h => ?_) (fun h => ?_)
  · refine k_iload_n X dX0_placeByName_44 2 rfl ?_
    exact k_iret X hrt hlk dX0_placeByName_45 ⟨rfl, h⟩
  · refine k_aload_n X dX0_placeByName_12 0 rfl ?_
    refine k_iload_n X dX0_placeByName_13 3 rfl ?_
    refine k_iload_n X dX0_placeByName_14 1 rfl ?_
    refine k_afterP (st := []) (fun H locs ls hP hS hl => k_runV (As := [kI v5, kI a1]) X lk_X0_102 rfl yo_X0_compareNames rfl (kR_ok (by decide) (by decide)) (ct_X0_compareNames (kCx_j X) t ht _ _ _ _ h) ht rfl (Nat.le_of_ble_eq_true rfl) dX0_placeByName_15 hP hS hl) (fun v6 h => ?_)
    refine k_istore X dX0_placeByName_18 h (fun v7 => [(4, kI v7), (0, .ref (ad t)), (1, kI a1), (2, kI v4), (3, kI v5)]) (by decide) (fun _ => rfl) (fun v7 h => ?_)
    refine k_iload X dX0_placeByName_20 0 rfl ?_
    refine jn_use (fun J9 => ∀ (v8 : Int), J9 v8 → kAt p l e (kR 1) s m ([.ref (ad t), kI a1] : List Value).toArray below meth c (MQ below (kQi NC kdC D cA ad (fun v z1 => z1 = z ∧ Kp v)) ([.ref (ad t), kI a1] : List Value).toArray s 0 0 (kA NC ad)) 5 NC kdC D cA ad 38 [(0, .ref (ad t)), (1, kI a1), (2, kI v8), (3, kI v5)] [] z) h ?_ (fun J9 hJ9 h => ?_)
    · intro v8 h
      refine k_iinc X dX0_placeByName_38 3 rfl h (fun v10 => [(3, kI v10), (0, .ref (ad t)), (1, kI a1), (2, kI v8)]) (by decide) (fun _ => rfl) (fun v10 h => ?_)
      refine k_goto (tgt := 4) X dX0_placeByName_41 (by decide) ?_
      exact k_sub [1, 2, 3, 0] rfl h
    · refine jn_use (fun J11 => J11 → kAt p l e (kR 1) s m ([.ref (ad t), kI a1] : List Value).toArray below meth c (MQ below (kQi NC kdC D cA ad (fun v z1 => z1 = z ∧ Kp v)) ([.ref (ad t), kI a1] : List Value).toArray s 0 0 (kA NC ad)) 5 NC kdC D cA ad 35 [(0, .ref (ad t)), (1, kI a1), (2, kI v4), (3, kI v5)] [] z) h ?_ (fun J11 hJ11 h => ?_)
      · intro h
        refine k_iinc X dX0_placeByName_35 2 rfl h (fun v12 => [(2, kI v12), (0, .ref (ad t)), (1, kI a1), (3, kI v5)]) (by decide) (fun _ => rfl) (fun v12 h => ?_)
        exact k_sub [1, 2, 0, 3] rfl (hJ9 _ h)
      · refine k_if_lt (tgt := 35) X dX0_placeByName_22 (by decide) h (fun h => ?_) (fun h => ?_)
        · exact k_sub [1, 2, 3, 4] rfl (hJ11 h)
        · refine k_iload X dX0_placeByName_25 0 rfl ?_
          refine k_if_ne (tgt := 38) X dX0_placeByName_27 (by decide) h (fun h => ?_) (fun h => ?_)
          · exact k_sub [1, 2, 3, 4] rfl (hJ9 _ h)
          · refine k_iload_n X dX0_placeByName_30 4 rfl ?_
            refine k_iload_n X dX0_placeByName_31 2 rfl ?_
            refine k_icmp_ge (tgt := 38) X dX0_placeByName_32 (by decide) h (fun h => ?_) (fun h => ?_)
            · exact k_sub [1, 2, 3, 4] rfl (hJ9 _ h)
            · exact k_sub [1, 2, 3, 4] rfl (hJ11 h)
set_option maxHeartbeats 4000000 in
set_option maxRecDepth 100000 in
theorem ct_X5_put {l : Launch} {D : va_G} {cA : Nat → ClassId} {ad sa : Nat → Nat} (hj : kInj NC ad) (t : Nat) (ht : kdC t = (0, 5, 2)) (a1 : Int) (z : Hp) (Kp : Hp → Prop) (h : cal_X5_put t a1 z Kp) : kMet l yX5_put cX5_put 2 none 0 NC kdC D cA ad sa [.ref (ad t), kI a1] z (kQv NC kdC D cA ad Kp) := by
  unfold cal_X5_put at h
  refine k_met (cc := cX5_put) (own := RX5) (nL := 2) rfl rfl (Nat.le_of_ble_eq_true rfl) hj kltC (fun p e s m below meth c X hrt hlk => ?_)
  refine k_sub (lv' := [(0, .ref (ad t)), (1, kI a1)]) [0, 1] rfl ?_
  refine k_aload_n X dX5_put_0 0 rfl ?_
  refine k_getI X fk_X5_15 ht rfl dX5_put_1 ?_
  refine k_aload_n X dX5_put_4 0 rfl ?_
  refine k_getR (t := t + 1) X fk_X5_9 ht (by decide) rfl dX5_put_5 ?_
  refine k_alen X (kc_5_0 ht) (by decide) dX5_put_8 ?_
  refine k_icmp_ge (tgt := 33) X dX5_put_9 (by decide) h (fun h => ?_) (fun h => ?_)
  · exact k_vret X hrt hlk dX5_put_33 h
  · refine k_aload_n X dX5_put_12 0 rfl ?_
    refine k_getR (t := t + 1) X fk_X5_9 ht (by decide) rfl dX5_put_13 ?_
    refine k_aload_n X dX5_put_16 0 rfl ?_
    refine k_getI X fk_X5_15 ht rfl dX5_put_17 ?_
    refine k_iload_n X dX5_put_20 1 rfl ?_
    refine k_i2b X dX5_put_21 h (fun h => ?_)
    refine k_bast X (kc_5_0 ht) (klT_le ht) dX5_put_22 h (fun h => k_nameH h (fun z1 h => ?_))
    refine k_aload_n X dX5_put_23 0 rfl ?_
    refine k_dup X dX5_put_24 rfl ?_
    refine k_getI X fk_X5_15 ht rfl dX5_put_25 ?_
    refine k_iconst X dX5_put_28 ?_
    refine k_iadd X dX5_put_29 ?_
    refine k_putI X fp_X5_15 ht rfl dX5_put_30 (k_nameH h (fun z2 h => ?_))
    exact k_vret X hrt hlk dX5_put_33 h
set_option maxHeartbeats 4000000 in
set_option maxRecDepth 100000 in
theorem ct_X5_putNumber {l : Launch} {D : va_G} {cA : Nat → ClassId} {ad sa : Nat → Nat} (hj : kInj NC ad) (t : Nat) (ht : kdC t = (0, 5, 2)) (a1 : Int) (z : Hp) (Kp : Hp → Prop) (h : cal_X5_putNumber t a1 z Kp) : kMet l yX5_putNumber cX5_putNumber 2 none 1 NC kdC D cA ad sa [.ref (ad t), kI a1] z (kQv NC kdC D cA ad Kp) := by
  unfold cal_X5_putNumber at h
  refine k_met (cc := cX5_putNumber) (own := RX5) (nL := 2) rfl rfl (Nat.le_of_ble_eq_true rfl) hj kltC (fun p e s m below meth c X hrt hlk => ?_)
  refine k_sub (lv' := [(0, .ref (ad t)), (1, kI a1)]) [0, 1] rfl ?_
  refine k_iload_n X dX5_putNumber_0 1 rfl ?_
  refine k_sipush X dX5_putNumber_1 (by decide +kernel) ?_
  refine jn_use (fun J1 => ∀ (z2 : Hp), J1 z2 → kAt p l e (kR 1) s m ([.ref (ad t), kI a1] : List Value).toArray below meth c (MQ below (kQv NC kdC D cA ad Kp) ([.ref (ad t), kI a1] : List Value).toArray s 0 0 (kA NC ad)) 2 NC kdC D cA ad 22 [(0, .ref (ad t)), (1, kI a1)] [] z2) h ?_ (fun J1 hJ1 h => ?_)
  · intro z2 h
    refine k_iload_n X dX5_putNumber_22 1 rfl ?_
    refine k_bipush X dX5_putNumber_23 (by decide +kernel) ?_
    refine jn_use (fun J3 => ∀ (z4 : Hp), J3 z4 → kAt p l e (kR 1) s m ([.ref (ad t), kI a1] : List Value).toArray below meth c (MQ below (kQv NC kdC D cA ad Kp) ([.ref (ad t), kI a1] : List Value).toArray s 0 0 (kA NC ad)) 2 NC kdC D cA ad 42 [(0, .ref (ad t)), (1, kI a1)] [] z4) h ?_ (fun J3 hJ3 h => ?_)
    · intro z4 h
      refine k_iload_n X dX5_putNumber_42 1 rfl ?_
      refine k_bipush X dX5_putNumber_43 (by decide +kernel) ?_
      refine jn_use (fun J5 => ∀ (z6 : Hp), J5 z6 → kAt p l e (kR 1) s m ([.ref (ad t), kI a1] : List Value).toArray below meth c (MQ below (kQv NC kdC D cA ad Kp) ([.ref (ad t), kI a1] : List Value).toArray s 0 0 (kA NC ad)) 2 NC kdC D cA ad 62 [(0, .ref (ad t)), (1, kI a1)] [] z6) h ?_ (fun J5 hJ5 h => ?_)
      · intro z6 h
        refine k_aload_n X dX5_putNumber_62 0 rfl ?_
        refine k_bipush X dX5_putNumber_63 (by decide +kernel) ?_
        refine k_iload_n X dX5_putNumber_65 1 rfl ?_
        refine k_bipush X dX5_putNumber_66 (by decide +kernel) ?_
        refine k_irem X dX5_putNumber_68 ⟨by decide, by decide⟩ h (fun h => ?_)
        refine k_iadd X dX5_putNumber_69 ?_
        refine k_afterV (st := []) (fun H locs ls hP hS hl => k_runV (As := [kI (48 + (a1 % 10))]) X lk_X5_28 rfl yo_X5_put rfl (kR_ok (by decide) (by decide)) (ct_X5_put (kCx_j X) t ht _ _ _ h) ht rfl (Nat.le_of_ble_eq_true rfl) dX5_putNumber_70 hP hS hl) (fun z7 h => ?_)
        exact k_vret X hrt hlk dX5_putNumber_73 h
      · refine k_icmp_lt (tgt := 62) X dX5_putNumber_45 (by decide) ⟨h.1, ⟨by decide, by decide⟩, h.2⟩ (fun h => ?_) (fun h => ?_)
        · exact k_sub [0, 1] rfl (hJ5 _ h)
        · refine k_aload_n X dX5_putNumber_48 0 rfl ?_
          refine k_bipush X dX5_putNumber_49 (by decide +kernel) ?_
          refine k_iload_n X dX5_putNumber_51 1 rfl ?_
          refine k_bipush X dX5_putNumber_52 (by decide +kernel) ?_
          refine k_idiv X dX5_putNumber_54 ⟨by decide, by decide⟩ h (fun h => ?_)
          refine k_bipush X dX5_putNumber_55 (by decide +kernel) ?_
          refine k_irem X dX5_putNumber_57 ⟨by decide, by decide⟩ h (fun h => ?_)
          refine k_iadd X dX5_putNumber_58 ?_
          refine k_afterV (st := []) (fun H locs ls hP hS hl => k_runV (As := [kI (48 + ((a1 / 10) % 10))]) X lk_X5_28 rfl yo_X5_put rfl (kR_ok (by decide) (by decide)) (ct_X5_put (kCx_j X) t ht _ _ _ h) ht rfl (Nat.le_of_ble_eq_true rfl) dX5_putNumber_59 hP hS hl) (fun z8 h => ?_)
          exact k_sub [0, 1] rfl (hJ5 _ h)
    · refine k_icmp_lt (tgt := 42) X dX5_putNumber_25 (by decide) ⟨h.1, ⟨by decide, by decide⟩, h.2⟩ (fun h => ?_) (fun h => ?_)
      · exact k_sub [0, 1] rfl (hJ3 _ h)
      · refine k_aload_n X dX5_putNumber_28 0 rfl ?_
        refine k_bipush X dX5_putNumber_29 (by decide +kernel) ?_
        refine k_iload_n X dX5_putNumber_31 1 rfl ?_
        refine k_bipush X dX5_putNumber_32 (by decide +kernel) ?_
        refine k_idiv X dX5_putNumber_34 ⟨by decide, by decide⟩ h (fun h => ?_)
        refine k_bipush X dX5_putNumber_35 (by decide +kernel) ?_
        refine k_irem X dX5_putNumber_37 ⟨by decide, by decide⟩ h (fun h => ?_)
        refine k_iadd X dX5_putNumber_38 ?_
        refine k_afterV (st := []) (fun H locs ls hP hS hl => k_runV (As := [kI (48 + ((a1 / 100) % 10))]) X lk_X5_28 rfl yo_X5_put rfl (kR_ok (by decide) (by decide)) (ct_X5_put (kCx_j X) t ht _ _ _ h) ht rfl (Nat.le_of_ble_eq_true rfl) dX5_putNumber_39 hP hS hl) (fun z9 h => ?_)
        exact k_sub [0, 1] rfl (hJ3 _ h)
  · refine k_icmp_lt (tgt := 22) X dX5_putNumber_4 (by decide) ⟨h.1, ⟨by decide, by decide⟩, h.2⟩ (fun h => ?_) (fun h => ?_)
    · exact k_sub [0, 1] rfl (hJ1 _ h)
    · refine k_aload_n X dX5_putNumber_7 0 rfl ?_
      refine k_bipush X dX5_putNumber_8 (by decide +kernel) ?_
      refine k_iload_n X dX5_putNumber_10 1 rfl ?_
      refine k_sipush X dX5_putNumber_11 (by decide +kernel) ?_
      refine k_idiv X dX5_putNumber_14 ⟨by decide, by decide⟩ h (fun h => ?_)
      refine k_bipush X dX5_putNumber_15 (by decide +kernel) ?_
      refine k_irem X dX5_putNumber_17 ⟨by decide, by decide⟩ h (fun h => ?_)
      refine k_iadd X dX5_putNumber_18 ?_
      refine k_afterV (st := []) (fun H locs ls hP hS hl => k_runV (As := [kI (48 + ((a1 / 1000) % 10))]) X lk_X5_28 rfl yo_X5_put rfl (kR_ok (by decide) (by decide)) (ct_X5_put (kCx_j X) t ht _ _ _ h) ht rfl (Nat.le_of_ble_eq_true rfl) dX5_putNumber_19 hP hS hl) (fun z10 h => ?_)
      exact k_sub [0, 1] rfl (hJ1 _ h)
set_option maxHeartbeats 4000000 in
set_option maxRecDepth 100000 in
theorem ct_X0_spellNumber {l : Launch} {D : va_G} {cA : Nat → ClassId} {ad sa : Nat → Nat} (hj : kInj NC ad) (r1 : Nat) (hr1 : kdC r1 = (0, 5, 2)) (a2 : Int) (z : Hp) (Kp : Hp → Prop) (h : cal_X0_spellNumber r1 a2 z Kp) : kMet l yX0_spellNumber cX0_spellNumber 2 none 2 NC kdC D cA ad sa [.ref (ad r1), kI a2] z (kQv NC kdC D cA ad Kp) := by
  unfold cal_X0_spellNumber at h
  refine k_met (cc := cX0_spellNumber) (own := RX0) (nL := 2) rfl rfl (Nat.le_of_ble_eq_true rfl) hj kltC (fun p e s m below meth c X hrt hlk => ?_)
  refine k_sub (lv' := [(0, .ref (ad r1)), (1, kI a2)]) [0, 1] rfl ?_
  refine k_iload_n X dX0_spellNumber_0 1 rfl ?_
  refine k_bipush X dX0_spellNumber_1 (by decide +kernel) ?_
  refine k_icmp_eq (tgt := 17) X dX0_spellNumber_3 (by decide) ⟨h.1, ⟨by decide, by decide⟩, h.2⟩ (fun h => ?_) (fun h => ?_)
  · exact k_vret X hrt hlk dX0_spellNumber_17 h
  · refine k_aload_n X dX0_spellNumber_6 0 rfl ?_
    refine k_bipush X dX0_spellNumber_7 (by decide +kernel) ?_
    refine k_afterV (st := []) (fun H locs ls hP hS hl => k_runV (As := [kI 32]) X lk_X0_84 rfl yo_X5_put rfl (kR_ok (by decide) (by decide)) (ct_X5_put (kCx_j X) r1 hr1 _ _ _ h) hr1 rfl (Nat.le_of_ble_eq_true rfl) dX0_spellNumber_9 hP hS hl) (fun z1 h => ?_)
    refine k_aload_n X dX0_spellNumber_12 0 rfl ?_
    refine k_iload_n X dX0_spellNumber_13 1 rfl ?_
    refine k_afterV (st := []) (fun H locs ls hP hS hl => k_runV (As := [kI a2]) X lk_X0_92 rfl yo_X5_putNumber rfl (kR_ok (by decide) (by decide)) (ct_X5_putNumber (kCx_j X) r1 hr1 _ _ _ h) hr1 rfl (Nat.le_of_ble_eq_true rfl) dX0_spellNumber_14 hP hS hl) (fun z2 h => ?_)
    exact k_vret X hrt hlk dX0_spellNumber_17 h
set_option maxHeartbeats 4000000 in
set_option maxRecDepth 100000 in
theorem ct_X4_letterOf {l : Launch} {D : va_G} {cA : Nat → ClassId} {ad sa : Nat → Nat} (hj : kInj NC ad) (a1 : Int) (z : Hp) (Kp : Int → Prop) (h : cal_X4_letterOf a1 z Kp) : kMet l yX4_letterOf cX4_letterOf 1 (some .int) 0 NC kdC D cA ad sa [kI a1] z (kQi NC kdC D cA ad (fun v z1 => z1 = z ∧ Kp v)) := by
  unfold cal_X4_letterOf at h
  refine k_met (cc := cX4_letterOf) (own := RX4) (nL := 1) rfl rfl (Nat.le_of_ble_eq_true rfl) hj kltC (fun p e s m below meth c X hrt hlk => ?_)
  refine k_sub (lv' := [(0, kI a1)]) [0] rfl ?_
  refine k_iload_n X dX4_letterOf_0 0 rfl ?_
  refine k_if_lt (tgt := 20) X dX4_letterOf_1 (by decide) h (fun h => ?_) (fun h => ?_)
  · refine k_bipush X dX4_letterOf_20 (by decide +kernel) ?_
    exact k_iret X hrt hlk dX4_letterOf_22 ⟨rfl, h⟩
  · refine k_iload_n X dX4_letterOf_4 0 rfl ?_
    refine k_gets X mw343 dX4_letterOf_5 (fun tl1 hl2 => ?_)
    refine k_letlen X hl2 dX4_letterOf_8 ?_
    refine k_icmp_ge (tgt := 20) X dX4_letterOf_9 (by decide) ⟨h.1, ⟨by decide, by decide⟩, h.2⟩ (fun h => ?_) (fun h => ?_)
    · refine k_bipush X dX4_letterOf_20 (by decide +kernel) ?_
      exact k_iret X hrt hlk dX4_letterOf_22 ⟨rfl, h⟩
    · refine k_gets X mw343 dX4_letterOf_12 (fun tl3 hl4 => ?_)
      refine k_iload_n X dX4_letterOf_15 0 rfl ?_
      refine k_letat X hl4 dX4_letterOf_16 h (fun h => ?_)
      refine k_goto (tgt := 22) X dX4_letterOf_17 (by decide) ?_
      exact k_iret X hrt hlk dX4_letterOf_22 ⟨rfl, h⟩
set_option maxHeartbeats 4000000 in
set_option maxRecDepth 100000 in
theorem ct_X0_spellInto {l : Launch} {D : va_G} {cA : Nat → ClassId} {ad sa : Nat → Nat} (hj : kInj NC ad) (t : Nat) (ht : kdC t = (0, 0, 11)) (r1 : Nat) (hr1 : kdC r1 = (0, 5, 2)) (a2 : Int) (z : Hp) (Kp : Hp → Prop) (h : cal_X0_spellInto t r1 a2 z Kp) : kMet l yX0_spellInto cX0_spellInto 3 none 3 NC kdC D cA ad sa [.ref (ad t), .ref (ad r1), kI a2] z (kQv NC kdC D cA ad Kp) := by
  unfold cal_X0_spellInto at h
  refine k_met (cc := cX0_spellInto) (own := RX0) (nL := 3) rfl rfl (Nat.le_of_ble_eq_true rfl) hj kltC (fun p e s m below meth c X hrt hlk => ?_)
  refine k_sub (lv' := [(0, .ref (ad t)), (1, .ref (ad r1)), (2, kI a2)]) [0, 1, 2] rfl ?_
  refine k_aload_n X dX0_spellInto_0 1 rfl ?_
  refine k_aload_n X dX0_spellInto_1 0 rfl ?_
  refine k_getR (t := t + 34) X fk_X0_23 ht (by decide) rfl dX0_spellInto_2 ?_
  refine k_iload_n X dX0_spellInto_5 2 rfl ?_
  refine k_iald X (kc_0_5 ht) (Nat.le_of_ble_eq_true rfl) dX0_spellInto_6 h (fun h => ?_)
  refine k_afterP (st := [.ref (ad r1)]) (fun H locs ls hP hS hl => k_runS (As := [kI (z (t + 34) a2.toNat)]) X lk_X0_80 yo_X4_letterOf rfl (kR_ok (by decide) (by decide)) (ct_X4_letterOf (kCx_j X) _ _ _ h) (Nat.le_of_ble_eq_true rfl) dX0_spellInto_7 hP hS hl) (fun v1 h => ?_)
  refine k_afterV (st := []) (fun H locs ls hP hS hl => k_runV (As := [kI v1]) X lk_X0_84 rfl yo_X5_put rfl (kR_ok (by decide) (by decide)) (ct_X5_put (kCx_j X) r1 hr1 _ _ _ h) hr1 rfl (Nat.le_of_ble_eq_true rfl) dX0_spellInto_10 hP hS hl) (fun z2 h => ?_)
  refine k_aload_n X dX0_spellInto_13 1 rfl ?_
  refine k_aload_n X dX0_spellInto_14 0 rfl ?_
  refine k_getR (t := t + 35) X fk_X0_26 ht (by decide) rfl dX0_spellInto_15 ?_
  refine k_iload_n X dX0_spellInto_18 2 rfl ?_
  refine k_iald X (kc_0_6 ht) (Nat.le_of_ble_eq_true rfl) dX0_spellInto_19 h (fun h => ?_)
  refine k_afterV (st := []) (fun H locs ls hP hS hl => k_runS (As := [.ref (ad r1), kI (z2 (t + 35) a2.toNat)]) X lk_X0_88 yo_X0_spellNumber rfl (kR_ok (by decide) (by decide)) (ct_X0_spellNumber (kCx_j X) r1 hr1 _ _ _ h) (Nat.le_of_ble_eq_true rfl) dX0_spellInto_20 hP hS hl) (fun z3 h => ?_)
  refine k_aload_n X dX0_spellInto_23 1 rfl ?_
  refine k_aload_n X dX0_spellInto_24 0 rfl ?_
  refine k_getR (t := t + 36) X fk_X0_29 ht (by decide) rfl dX0_spellInto_25 ?_
  refine k_iload_n X dX0_spellInto_28 2 rfl ?_
  refine k_iald X (kc_0_7 ht) (Nat.le_of_ble_eq_true rfl) dX0_spellInto_29 h (fun h => ?_)
  refine k_afterV (st := []) (fun H locs ls hP hS hl => k_runS (As := [.ref (ad r1), kI (z3 (t + 36) a2.toNat)]) X lk_X0_88 yo_X0_spellNumber rfl (kR_ok (by decide) (by decide)) (ct_X0_spellNumber (kCx_j X) r1 hr1 _ _ _ h) (Nat.le_of_ble_eq_true rfl) dX0_spellInto_30 hP hS hl) (fun z4 h => ?_)
  refine k_aload_n X dX0_spellInto_33 1 rfl ?_
  refine k_aload_n X dX0_spellInto_34 0 rfl ?_
  refine k_getR (t := t + 37) X fk_X0_32 ht (by decide) rfl dX0_spellInto_35 ?_
  refine k_iload_n X dX0_spellInto_38 2 rfl ?_
  refine k_iald X (kc_0_8 ht) (Nat.le_of_ble_eq_true rfl) dX0_spellInto_39 h (fun h => ?_)
  refine k_afterV (st := []) (fun H locs ls hP hS hl => k_runS (As := [.ref (ad r1), kI (z4 (t + 37) a2.toNat)]) X lk_X0_88 yo_X0_spellNumber rfl (kR_ok (by decide) (by decide)) (ct_X0_spellNumber (kCx_j X) r1 hr1 _ _ _ h) (Nat.le_of_ble_eq_true rfl) dX0_spellInto_40 hP hS hl) (fun z5 h => ?_)
  refine k_aload_n X dX0_spellInto_43 1 rfl ?_
  refine k_aload_n X dX0_spellInto_44 0 rfl ?_
  refine k_getR (t := t + 38) X fk_X0_35 ht (by decide) rfl dX0_spellInto_45 ?_
  refine k_iload_n X dX0_spellInto_48 2 rfl ?_
  refine k_iald X (kc_0_9 ht) (Nat.le_of_ble_eq_true rfl) dX0_spellInto_49 h (fun h => ?_)
  refine k_afterV (st := []) (fun H locs ls hP hS hl => k_runS (As := [.ref (ad r1), kI (z5 (t + 38) a2.toNat)]) X lk_X0_88 yo_X0_spellNumber rfl (kR_ok (by decide) (by decide)) (ct_X0_spellNumber (kCx_j X) r1 hr1 _ _ _ h) (Nat.le_of_ble_eq_true rfl) dX0_spellInto_50 hP hS hl) (fun z6 h => ?_)
  exact k_vret X hrt hlk dX0_spellInto_53 h
set_option maxHeartbeats 4000000 in
set_option maxRecDepth 100000 in
theorem ct_X0_unlikeNames {l : Launch} {D : va_G} {cA : Nat → ClassId} {ad sa : Nat → Nat} (hj : kInj NC ad) (t : Nat) (ht : kdC t = (0, 0, 11)) (z : Hp) (Kp : Int → Prop) (h : cal_X0_unlikeNames t z Kp) : kMet l yX0_unlikeNames cX0_unlikeNames 5 (some .int) 1 NC kdC D cA ad sa [.ref (ad t)] z (kQi NC kdC D cA ad (fun v z1 => z1 = z ∧ Kp v)) := by
  unfold cal_X0_unlikeNames at h
  refine k_met (cc := cX0_unlikeNames) (own := RX0) (nL := 5) rfl rfl (Nat.le_of_ble_eq_true rfl) hj kltC (fun p e s m below meth c X hrt hlk => ?_)
  refine k_sub (lv' := [(0, .ref (ad t))]) [0] rfl ?_
  refine k_iconst X dX0_unlikeNames_0 ?_
  refine k_istore_n X dX0_unlikeNames_1 h (fun v1 => [(1, kI v1), (0, .ref (ad t))]) (by decide) (fun _ => rfl) (fun v1 h => ?_)
  refine k_iconst X dX0_unlikeNames_2 ?_
  refine k_istore_n X dX0_unlikeNames_3 h (fun v2 => [(2, kI v2), (1, kI v1), (0, .ref (ad t))]) (by decide) (fun _ => rfl) (fun v2 h => ?_)
  refine k_sub (lv' := [(0, .ref (ad t)), (1, kI v1), (2, kI v2)]) [2, 1, 0] rfl ?_
  refine h (fun v4 v5 => kAt p l e (kR 1) s m ([.ref (ad t)] : List Value).toArray below meth c (MQ below (kQi NC kdC D cA ad (fun v z1 => z1 = z ∧ Kp v)) ([.ref (ad t)] : List Value).toArray s 0 0 (kA NC ad)) 5 NC kdC D cA ad 4 [(0, .ref (ad t)), (1, kI v4), (2, kI v5)] [] z) (fun v4 v5 h => ?_)
  refine k_iload_n X dX0_unlikeNames_4 2 rfl ?_
  refine k_aload_n X dX0_unlikeNames_5 0 rfl ?_
  refine k_getI X fk_X0_41 ht rfl dX0_unlikeNames_6 ?_
  refine k_icmp_ge (tgt := 67) X dX0_unlikeNames_9 (by decide) h (fun h => ?_) (fun h => ?_)
  · refine k_iload_n X dX0_unlikeNames_67 1 rfl ?_
    exact k_iret X hrt hlk dX0_unlikeNames_68 ⟨rfl, h⟩
  · refine k_iconst X dX0_unlikeNames_12 ?_
    refine k_istore_n X dX0_unlikeNames_13 h (fun v6 => [(3, kI v6), (0, .ref (ad t)), (1, kI v4), (2, kI v5)]) (by decide) (fun _ => rfl) (fun v6 h => ?_)
    refine k_iconst X dX0_unlikeNames_14 ?_
    refine k_istore X dX0_unlikeNames_15 h (fun v7 => [(4, kI v7), (3, kI v6), (0, .ref (ad t)), (1, kI v4), (2, kI v5)]) (by decide) (fun _ => rfl) (fun v7 h => ?_)
    refine k_sub (lv' := [(0, .ref (ad t)), (1, kI v4), (2, kI v5), (3, kI v6), (4, kI v7)]) [2, 3, 4, 1, 0] rfl ?_
    refine h (fun v9 v10 => kAt p l e (kR 1) s m ([.ref (ad t)] : List Value).toArray below meth c (MQ below (kQi NC kdC D cA ad (fun v z1 => z1 = z ∧ Kp v)) ([.ref (ad t)] : List Value).toArray s 0 0 (kA NC ad)) 5 NC kdC D cA ad 17 [(0, .ref (ad t)), (1, kI v4), (2, kI v5), (3, kI v9), (4, kI v10)] [] z) (fun v9 v10 h => ?_)
    refine k_iload X dX0_unlikeNames_17 4 rfl ?_
    refine k_iload_n X dX0_unlikeNames_19 2 rfl ?_
    refine k_icmp_ge (tgt := 49) X dX0_unlikeNames_20 (by decide) h (fun h => ?_) (fun h => ?_)
    · refine k_iload_n X dX0_unlikeNames_49 1 rfl ?_
      refine k_iload_n X dX0_unlikeNames_50 3 rfl ?_
      refine jn_use (fun J12 => ∀ (v11 : Int), J12 v11 → kAt p l e (kR 1) s m ([.ref (ad t)] : List Value).toArray below meth c (MQ below (kQi NC kdC D cA ad (fun v z1 => z1 = z ∧ Kp v)) ([.ref (ad t)] : List Value).toArray s 0 0 (kA NC ad)) 5 NC kdC D cA ad 61 [(0, .ref (ad t)), (1, kI v11), (2, kI v5)] [] z) h ?_ (fun J12 hJ12 h => ?_)
      · intro v11 h
        refine k_iinc X dX0_unlikeNames_61 2 rfl h (fun v13 => [(2, kI v13), (0, .ref (ad t)), (1, kI v11)]) (by decide) (fun _ => rfl) (fun v13 h => ?_)
        refine k_goto (tgt := 4) X dX0_unlikeNames_64 (by decide) ?_
        exact k_sub [1, 2, 0] rfl h
      · refine k_if_eq (tgt := 58) X dX0_unlikeNames_51 (by decide) h (fun h => ?_) (fun h => ?_)
        · refine k_iconst X dX0_unlikeNames_58 ?_
          refine k_iadd X dX0_unlikeNames_59 ?_
          refine k_istore_n X dX0_unlikeNames_60 h (fun v14 => [(1, kI v14), (0, .ref (ad t)), (2, kI v5), (3, kI v9), (4, kI v10)]) (by decide) (fun _ => rfl) (fun v14 h => ?_)
          exact k_sub [1, 0, 2] rfl (hJ12 _ h)
        · refine k_iconst X dX0_unlikeNames_54 ?_
          refine k_goto (tgt := 59) X dX0_unlikeNames_55 (by decide) ?_
          refine k_iadd X dX0_unlikeNames_59 ?_
          refine k_istore_n X dX0_unlikeNames_60 h (fun v15 => [(1, kI v15), (0, .ref (ad t)), (2, kI v5), (3, kI v9), (4, kI v10)]) (by decide) (fun _ => rfl) (fun v15 h => ?_)
          exact k_sub [1, 0, 2] rfl (hJ12 _ h)
    · refine k_iload_n X dX0_unlikeNames_23 3 rfl ?_
      refine jn_use (fun J17 => ∀ (v16 : Int), J17 v16 → kAt p l e (kR 1) s m ([.ref (ad t)] : List Value).toArray below meth c (MQ below (kQi NC kdC D cA ad (fun v z1 => z1 = z ∧ Kp v)) ([.ref (ad t)] : List Value).toArray s 0 0 (kA NC ad)) 5 NC kdC D cA ad 43 [(0, .ref (ad t)), (1, kI v4), (2, kI v5), (3, kI v16), (4, kI v10)] [] z) h ?_ (fun J17 hJ17 h => ?_)
      · intro v16 h
        refine k_iinc X dX0_unlikeNames_43 4 rfl h (fun v18 => [(4, kI v18), (0, .ref (ad t)), (1, kI v4), (2, kI v5), (3, kI v16)]) (by decide) (fun _ => rfl) (fun v18 h => ?_)
        refine k_goto (tgt := 17) X dX0_unlikeNames_46 (by decide) ?_
        exact k_sub [1, 2, 3, 4, 0] rfl h
      · refine jn_use (fun J19 => J19 → kAt p l e (kR 1) s m ([.ref (ad t)] : List Value).toArray below meth c (MQ below (kQi NC kdC D cA ad (fun v z1 => z1 = z ∧ Kp v)) ([.ref (ad t)] : List Value).toArray s 0 0 (kA NC ad)) 5 NC kdC D cA ad 41 [(0, .ref (ad t)), (1, kI v4), (2, kI v5), (4, kI v10)] [] z) h ?_ (fun J19 hJ19 h => ?_)
        · intro h
          refine k_iconst X dX0_unlikeNames_41 ?_
          refine k_istore_n X dX0_unlikeNames_42 h (fun v20 => [(3, kI v20), (0, .ref (ad t)), (1, kI v4), (2, kI v5), (4, kI v10)]) (by decide) (fun _ => rfl) (fun v20 h => ?_)
          exact k_sub [1, 2, 3, 0, 4] rfl (hJ17 _ h)
        · refine k_if_eq (tgt := 41) X dX0_unlikeNames_24 (by decide) h (fun h => ?_) (fun h => ?_)
          · exact k_sub [0, 1, 2, 4] rfl (hJ19 h)
          · refine k_aload_n X dX0_unlikeNames_27 0 rfl ?_
            refine k_iload X dX0_unlikeNames_28 4 rfl ?_
            refine k_iload_n X dX0_unlikeNames_30 2 rfl ?_
            refine k_afterP (st := []) (fun H locs ls hP hS hl => k_runV (As := [kI v10, kI v5]) X lk_X0_102 rfl yo_X0_compareNames rfl (kR_ok (by decide) (by decide)) (ct_X0_compareNames (kCx_j X) t ht _ _ _ _ h) ht rfl (Nat.le_of_ble_eq_true rfl) dX0_unlikeNames_31 hP hS hl) (fun v21 h => ?_)
            refine k_if_eq (tgt := 41) X dX0_unlikeNames_34 (by decide) h (fun h => ?_) (fun h => ?_)
            · exact k_sub [0, 1, 2, 4] rfl (hJ19 h)
            · refine k_iconst X dX0_unlikeNames_37 ?_
              refine k_goto (tgt := 42) X dX0_unlikeNames_38 (by decide) ?_
              refine k_istore_n X dX0_unlikeNames_42 h (fun v22 => [(3, kI v22), (0, .ref (ad t)), (1, kI v4), (2, kI v5), (4, kI v10)]) (by decide) (fun _ => rfl) (fun v22 h => ?_)
              exact k_sub [1, 2, 3, 0, 4] rfl (hJ17 _ h)
set_option maxHeartbeats 4000000 in
set_option maxRecDepth 100000 in
theorem ct_X0_write {l : Launch} {D : va_G} {cA : Nat → ClassId} {ad sa : Nat → Nat} (hj : kInj NC ad) (t : Nat) (ht : kdC t = (0, 0, 11)) (a1 : Int) (r2 : Nat) (hr2 : kdC r2 = (0, 4, 8)) (a3 : Int) (z : Hp) (Kp : Hp → Prop) (h : cal_X0_write t a1 r2 a3 z Kp) : kMet l yX0_write cX0_write 4 none 0 NC kdC D cA ad sa [.ref (ad t), kI a1, .ref (ad r2), kI a3] z (kQv NC kdC D cA ad Kp) := by
  unfold cal_X0_write at h
  refine k_met (cc := cX0_write) (own := RX0) (nL := 4) rfl rfl (Nat.le_of_ble_eq_true rfl) hj kltC (fun p e s m below meth c X hrt hlk => ?_)
  refine k_sub (lv' := [(0, .ref (ad t)), (1, kI a1), (2, .ref (ad r2)), (3, kI a3)]) [0, 1, 2, 3] rfl ?_
  refine k_aload_n X dX0_write_0 0 rfl ?_
  refine k_getR (t := t + 34) X fk_X0_23 ht (by decide) rfl dX0_write_1 ?_
  refine k_iload_n X dX0_write_4 1 rfl ?_
  refine k_aload_n X dX0_write_5 2 rfl ?_
  refine k_getI X fk_X0_57 hr2 rfl dX0_write_6 ?_
  refine k_iast X (kc_0_5 ht) (Nat.le_of_ble_eq_true rfl) dX0_write_9 h (fun h => k_nameH h (fun z1 h => ?_))
  refine k_aload_n X dX0_write_10 0 rfl ?_
  refine k_getR (t := t + 35) X fk_X0_26 ht (by decide) rfl dX0_write_11 ?_
  refine k_iload_n X dX0_write_14 1 rfl ?_
  refine k_aload_n X dX0_write_15 2 rfl ?_
  refine k_getI X fk_X0_62 hr2 rfl dX0_write_16 ?_
  refine k_iast X (kc_0_6 ht) (Nat.le_of_ble_eq_true rfl) dX0_write_19 h (fun h => k_nameH h (fun z2 h => ?_))
  refine k_aload_n X dX0_write_20 0 rfl ?_
  refine k_getR (t := t + 36) X fk_X0_29 ht (by decide) rfl dX0_write_21 ?_
  refine k_iload_n X dX0_write_24 1 rfl ?_
  refine k_aload_n X dX0_write_25 2 rfl ?_
  refine k_getI X fk_X0_65 hr2 rfl dX0_write_26 ?_
  refine k_iast X (kc_0_7 ht) (Nat.le_of_ble_eq_true rfl) dX0_write_29 h (fun h => k_nameH h (fun z3 h => ?_))
  refine k_aload_n X dX0_write_30 0 rfl ?_
  refine k_getR (t := t + 37) X fk_X0_32 ht (by decide) rfl dX0_write_31 ?_
  refine k_iload_n X dX0_write_34 1 rfl ?_
  refine k_aload_n X dX0_write_35 2 rfl ?_
  refine k_getI X fk_X0_68 hr2 rfl dX0_write_36 ?_
  refine k_iast X (kc_0_8 ht) (Nat.le_of_ble_eq_true rfl) dX0_write_39 h (fun h => k_nameH h (fun z4 h => ?_))
  refine k_aload_n X dX0_write_40 0 rfl ?_
  refine k_getR (t := t + 38) X fk_X0_35 ht (by decide) rfl dX0_write_41 ?_
  refine k_iload_n X dX0_write_44 1 rfl ?_
  refine k_aload_n X dX0_write_45 2 rfl ?_
  refine k_getI X fk_X0_71 hr2 rfl dX0_write_46 ?_
  refine k_iast X (kc_0_9 ht) (Nat.le_of_ble_eq_true rfl) dX0_write_49 h (fun h => k_nameH h (fun z5 h => ?_))
  refine k_aload_n X dX0_write_50 0 rfl ?_
  refine k_getR (t := t + 39) X fk_X0_38 ht (by decide) rfl dX0_write_51 ?_
  refine k_iload_n X dX0_write_54 1 rfl ?_
  refine k_iload_n X dX0_write_55 3 rfl ?_
  refine k_iast X (kc_0_10 ht) (Nat.le_of_ble_eq_true rfl) dX0_write_56 h (fun h => k_nameH h (fun z6 h => ?_))
  exact k_vret X hrt hlk dX0_write_57 h
set_option maxHeartbeats 4000000 in
set_option maxRecDepth 100000 in
theorem ct_X10_has {l : Launch} {D : va_G} {cA : Nat → ClassId} {ad sa : Nat → Nat} (hj : kInj NM ad) (a1 : Int) (a2 : Int) (z : Hp) (Kp : Int → Prop) (h : cal_X10_has a1 a2 z Kp) : kMet l yX10_has cX10_has 2 (some .boolean) 0 NM kdM D cA ad sa [kI a1, kI a2] z (kQi NM kdM D cA ad (fun v z1 => z1 = z ∧ Kp v)) := by
  unfold cal_X10_has at h
  refine k_met (cc := cX10_has) (own := RX10) (nL := 2) rfl rfl (Nat.le_of_ble_eq_true rfl) hj kltM (fun p e s m below meth c X hrt hlk => ?_)
  refine k_sub (lv' := [(0, kI a1), (1, kI a2)]) [0, 1] rfl ?_
  refine k_iload_n X dX10_has_0 0 rfl ?_
  refine k_iload_n X dX10_has_1 1 rfl ?_
  refine k_ishr X dX10_has_2 ?_
  refine k_iconst X dX10_has_3 ?_
  refine k_iand X dX10_has_4 ?_
  refine k_iconst X dX10_has_5 ?_
  refine k_icmp_ne (tgt := 13) X dX10_has_6 (by decide) ⟨h.1, ⟨by decide, by decide⟩, h.2⟩ (fun h => ?_) (fun h => ?_)
  · refine k_iconst X dX10_has_13 ?_
    exact k_zret X hrt hlk dX10_has_14 ⟨Or.inl rfl, ⟨rfl, h⟩⟩
  · refine k_iconst X dX10_has_9 ?_
    refine k_goto (tgt := 14) X dX10_has_10 (by decide) ?_
    exact k_zret X hrt hlk dX10_has_14 ⟨Or.inr rfl, ⟨rfl, h⟩⟩
set_option maxHeartbeats 4000000 in
set_option maxRecDepth 100000 in
theorem ct_X10_ages {l : Launch} {D : va_G} {cA : Nat → ClassId} {ad sa : Nat → Nat} (hj : kInj NM ad)  (z : Hp) (Kp : Int → Hp → Prop) (h : cal_X10_ages  z Kp) : kMet l yX10_ages cX10_ages 4 (some .boolean) 1 NM kdM D cA ad sa [.ref (ad 0)] z (kQi NM kdM D cA ad Kp) := by
  unfold cal_X10_ages at h
  refine k_met (cc := cX10_ages) (own := RX10) (nL := 4) rfl rfl (Nat.le_of_ble_eq_true rfl) hj kltM (fun p e s m below meth c X hrt hlk => ?_)
  refine k_sub (lv' := [(0, .ref (ad 0))]) [0] rfl ?_
  refine k_iconst X dX10_ages_0 ?_
  refine k_istore_n X dX10_ages_1 h (fun v1 => [(1, kI v1), (0, .ref (ad 0))]) (by decide) (fun _ => rfl) (fun v1 h => ?_)
  refine k_sub (lv' := [(0, .ref (ad 0)), (1, kI v1)]) [1, 0] rfl ?_
  refine h (fun v3 z4 => kAt p l e (kR 1) s m ([.ref (ad 0)] : List Value).toArray below meth c (MQ below (kQi NM kdM D cA ad Kp) ([.ref (ad 0)] : List Value).toArray s 0 0 (kA NM ad)) 4 NM kdM D cA ad 2 [(0, .ref (ad 0)), (1, kI v3)] [] z4) (fun v3 z4 h => ?_)
  refine k_iload_n X dX10_ages_2 1 rfl ?_
  refine k_aload_n X dX10_ages_3 0 rfl ?_
  refine k_getR (t := 1) X fk_X10_11 (by rfl) (by decide) rfl dX10_ages_4 ?_
  refine k_iconst X dX10_ages_7 ?_
  refine k_iald X kzM_1 (Nat.le_of_ble_eq_true rfl) dX10_ages_8 ⟨⟨by decide, by decide⟩, h⟩ (fun h => ?_)
  refine k_icmp_ge (tgt := 40) X dX10_ages_9 (by decide) h (fun h => ?_) (fun h => ?_)
  · refine k_iconst X dX10_ages_40 ?_
    refine k_istore_n X dX10_ages_41 h (fun v5 => [(1, kI v5), (0, .ref (ad 0))]) (by decide) (fun _ => rfl) (fun v5 h => ?_)
    refine k_sub (lv' := [(0, .ref (ad 0)), (1, kI v5)]) [1, 0] rfl ?_
    refine h (fun v7 z8 => kAt p l e (kR 1) s m ([.ref (ad 0)] : List Value).toArray below meth c (MQ below (kQi NM kdM D cA ad Kp) ([.ref (ad 0)] : List Value).toArray s 0 0 (kA NM ad)) 4 NM kdM D cA ad 42 [(0, .ref (ad 0)), (1, kI v7)] [] z8) (fun v7 z8 h => ?_)
    refine k_iload_n X dX10_ages_42 1 rfl ?_
    refine k_aload_n X dX10_ages_43 0 rfl ?_
    refine k_getR (t := 1) X fk_X10_11 (by rfl) (by decide) rfl dX10_ages_44 ?_
    refine k_iconst X dX10_ages_47 ?_
    refine k_iald X kzM_1 (Nat.le_of_ble_eq_true rfl) dX10_ages_48 ⟨⟨by decide, by decide⟩, h⟩ (fun h => ?_)
    refine k_icmp_ge (tgt := 146) X dX10_ages_49 (by decide) h (fun h => ?_) (fun h => ?_)
    · refine k_iconst X dX10_ages_146 ?_
      exact k_zret X hrt hlk dX10_ages_147 ⟨Or.inr rfl, h⟩
    · refine k_iconst X dX10_ages_52 ?_
      refine k_istore_n X dX10_ages_53 h (fun v9 => [(2, kI v9), (0, .ref (ad 0)), (1, kI v7)]) (by decide) (fun _ => rfl) (fun v9 h => ?_)
      refine k_sub (lv' := [(0, .ref (ad 0)), (1, kI v7), (2, kI v9)]) [1, 2, 0] rfl ?_
      refine h (fun v11 z12 => kAt p l e (kR 1) s m ([.ref (ad 0)] : List Value).toArray below meth c (MQ below (kQi NM kdM D cA ad Kp) ([.ref (ad 0)] : List Value).toArray s 0 0 (kA NM ad)) 4 NM kdM D cA ad 54 [(0, .ref (ad 0)), (1, kI v7), (2, kI v11)] [] z12) (fun v11 z12 h => ?_)
      refine k_iload_n X dX10_ages_54 2 rfl ?_
      refine k_aload_n X dX10_ages_55 0 rfl ?_
      refine k_getR (t := 1) X fk_X10_11 (by rfl) (by decide) rfl dX10_ages_56 ?_
      refine k_iconst X dX10_ages_59 ?_
      refine k_iald X kzM_1 (Nat.le_of_ble_eq_true rfl) dX10_ages_60 ⟨⟨by decide, by decide⟩, h⟩ (fun h => ?_)
      refine k_icmp_ge (tgt := 140) X dX10_ages_61 (by decide) h (fun h => ?_) (fun h => ?_)
      · refine k_iinc X dX10_ages_140 1 rfl h (fun v13 => [(1, kI v13), (0, .ref (ad 0)), (2, kI v11)]) (by decide) (fun _ => rfl) (fun v13 h => ?_)
        refine k_goto (tgt := 42) X dX10_ages_143 (by decide) ?_
        exact k_sub [1, 0] rfl h
      · refine k_iconst X dX10_ages_64 ?_
        refine k_istore_n X dX10_ages_65 h (fun v14 => [(3, kI v14), (0, .ref (ad 0)), (1, kI v7), (2, kI v11)]) (by decide) (fun _ => rfl) (fun v14 h => ?_)
        refine k_sub (lv' := [(0, .ref (ad 0)), (1, kI v7), (2, kI v11), (3, kI v14)]) [1, 2, 3, 0] rfl ?_
        refine h (fun v16 z17 => kAt p l e (kR 1) s m ([.ref (ad 0)] : List Value).toArray below meth c (MQ below (kQi NM kdM D cA ad Kp) ([.ref (ad 0)] : List Value).toArray s 0 0 (kA NM ad)) 4 NM kdM D cA ad 66 [(0, .ref (ad 0)), (1, kI v7), (2, kI v11), (3, kI v16)] [] z17) (fun v16 z17 h => ?_)
        refine k_iload_n X dX10_ages_66 3 rfl ?_
        refine k_aload_n X dX10_ages_67 0 rfl ?_
        refine k_getR (t := 1) X fk_X10_11 (by rfl) (by decide) rfl dX10_ages_68 ?_
        refine k_iconst X dX10_ages_71 ?_
        refine k_iald X kzM_1 (Nat.le_of_ble_eq_true rfl) dX10_ages_72 ⟨⟨by decide, by decide⟩, h⟩ (fun h => ?_)
        refine k_icmp_ge (tgt := 134) X dX10_ages_73 (by decide) h (fun h => ?_) (fun h => ?_)
        · refine k_iinc X dX10_ages_134 2 rfl h (fun v18 => [(2, kI v18), (0, .ref (ad 0)), (1, kI v7), (3, kI v16)]) (by decide) (fun _ => rfl) (fun v18 h => ?_)
          refine k_goto (tgt := 54) X dX10_ages_137 (by decide) ?_
          exact k_sub [1, 2, 0] rfl h
        · refine k_aload_n X dX10_ages_76 0 rfl ?_
          refine k_getR (t := 17) X fk_X10_60 (by rfl) (by decide) rfl dX10_ages_77 ?_
          refine k_iload_n X dX10_ages_80 2 rfl ?_
          refine k_aload_n X dX10_ages_81 0 rfl ?_
          refine k_getR (t := 7) X fk_X10_30 (by rfl) (by decide) rfl dX10_ages_82 ?_
          refine k_iload_n X dX10_ages_85 2 rfl ?_
          refine k_iald X kzM_7 (Nat.le_of_ble_eq_true rfl) dX10_ages_86 h (fun h => ?_)
          refine k_aload_n X dX10_ages_87 0 rfl ?_
          refine k_getR (t := 8) X fk_X10_33 (by rfl) (by decide) rfl dX10_ages_88 ?_
          refine k_iload_n X dX10_ages_91 2 rfl ?_
          refine k_iald X kzM_8 (Nat.le_of_ble_eq_true rfl) dX10_ages_92 h (fun h => ?_)
          refine k_ior X dX10_ages_93 ?_
          refine k_iload_n X dX10_ages_94 3 rfl ?_
          refine k_afterP (st := [kI v11, .ref (ad 17)]) (fun H locs ls hP hS hl => k_runS (As := [kI (ior (z17 7 v11.toNat) (z17 8 v11.toNat)), kI v16]) X lk_X10_89 yo_X10_has rfl (kR_ok (by decide) (by decide)) (ct_X10_has (kCx_j X) _ _ _ _ h) (Nat.le_of_ble_eq_true rfl) dX10_ages_95 hP hS hl) (fun v19 h => ?_)
          refine jn_use (fun J20 => ∀ (z21 : Hp), J20 z21 → kAt p l e (kR 1) s m ([.ref (ad 0)] : List Value).toArray below meth c (MQ below (kQi NM kdM D cA ad Kp) ([.ref (ad 0)] : List Value).toArray s 0 0 (kA NM ad)) 4 NM kdM D cA ad 128 [(0, .ref (ad 0)), (1, kI v7), (2, kI v11), (3, kI v16)] [] z21) h ?_ (fun J20 hJ20 h => ?_)
          · intro z21 h
            refine k_iinc X dX10_ages_128 3 rfl h (fun v22 => [(3, kI v22), (0, .ref (ad 0)), (1, kI v7), (2, kI v11)]) (by decide) (fun _ => rfl) (fun v22 h => ?_)
            refine k_goto (tgt := 66) X dX10_ages_131 (by decide) ?_
            exact k_sub [1, 2, 3, 0] rfl h
          · refine k_if_eq (tgt := 121) X dX10_ages_98 (by decide) h (fun h => ?_) (fun h => ?_)
            · refine k_aload_n X dX10_ages_121 0 rfl ?_
              refine k_getR (t := 17) X fk_X10_60 (by rfl) (by decide) rfl dX10_ages_122 ?_
              refine k_iload_n X dX10_ages_125 2 rfl ?_
              refine k_iald X kzM_17 (Nat.le_of_ble_eq_true rfl) dX10_ages_126 h (fun h => ?_)
              refine k_iast X kzM_17 (Nat.le_of_ble_eq_true rfl) dX10_ages_127 h (fun h => k_nameH h (fun z23 h => ?_))
              exact k_sub [0, 1, 2, 3] rfl (hJ20 _ h)
            · refine k_aload_n X dX10_ages_101 0 rfl ?_
              refine k_getR (t := 17) X fk_X10_60 (by rfl) (by decide) rfl dX10_ages_102 ?_
              refine k_iload_n X dX10_ages_105 2 rfl ?_
              refine k_iald X kzM_17 (Nat.le_of_ble_eq_true rfl) dX10_ages_106 h (fun h => ?_)
              refine k_aload_n X dX10_ages_107 0 rfl ?_
              refine k_getR (t := 17) X fk_X10_60 (by rfl) (by decide) rfl dX10_ages_108 ?_
              refine k_iload_n X dX10_ages_111 3 rfl ?_
              refine k_iald X kzM_17 (Nat.le_of_ble_eq_true rfl) dX10_ages_112 h (fun h => ?_)
              refine k_iconst X dX10_ages_113 ?_
              refine k_iadd X dX10_ages_114 ?_
              refine k_mmax X mw1097 mw447 mw11 mw448 (kR_one (by decide)) (Nat.le_of_ble_eq_true rfl) dX10_ages_115 h (fun h => ?_)
              refine k_goto (tgt := 127) X dX10_ages_118 (by decide) ?_
              refine k_iast X kzM_17 (Nat.le_of_ble_eq_true rfl) dX10_ages_127 h (fun h => k_nameH h (fun z24 h => ?_))
              exact k_sub [0, 1, 2, 3] rfl (hJ20 _ h)
  · refine k_aload_n X dX10_ages_12 0 rfl ?_
    refine k_getR (t := 17) X fk_X10_60 (by rfl) (by decide) rfl dX10_ages_13 ?_
    refine k_iload_n X dX10_ages_16 1 rfl ?_
    refine k_iconst X dX10_ages_17 ?_
    refine k_iast X kzM_17 (Nat.le_of_ble_eq_true rfl) dX10_ages_18 h (fun h => k_nameH h (fun z25 h => ?_))
    refine k_aload_n X dX10_ages_19 0 rfl ?_
    refine k_getR (t := 9) X fk_X10_36 (by rfl) (by decide) rfl dX10_ages_20 ?_
    refine k_iload_n X dX10_ages_23 1 rfl ?_
    refine k_iald X kzM_9 (Nat.le_of_ble_eq_true rfl) dX10_ages_24 h (fun h => ?_)
    refine k_iload_n X dX10_ages_25 1 rfl ?_
    refine k_afterP (st := []) (fun H locs ls hP hS hl => k_runS (As := [kI (z25 9 v3.toNat), kI v3]) X lk_X10_89 yo_X10_has rfl (kR_ok (by decide) (by decide)) (ct_X10_has (kCx_j X) _ _ _ _ h) (Nat.le_of_ble_eq_true rfl) dX10_ages_26 hP hS hl) (fun v26 h => ?_)
    refine k_if_eq (tgt := 34) X dX10_ages_29 (by decide) h (fun h => ?_) (fun h => ?_)
    · refine k_iinc X dX10_ages_34 1 rfl h (fun v27 => [(1, kI v27), (0, .ref (ad 0))]) (by decide) (fun _ => rfl) (fun v27 h => ?_)
      refine k_goto (tgt := 2) X dX10_ages_37 (by decide) ?_
      exact k_sub [1, 0] rfl h
    · refine k_iconst X dX10_ages_32 ?_
      exact k_zret X hrt hlk dX10_ages_33 ⟨Or.inl rfl, h⟩
set_option maxHeartbeats 4000000 in
set_option maxRecDepth 100000 in
theorem ct_X10_isIn {l : Launch} {D : va_G} {cA : Nat → ClassId} {ad sa : Nat → Nat} (hj : kInj NM ad) (a1 : Int) (a2 : Int) (a3 : Int) (z : Hp) (Kp : Int → Prop) (h : cal_X10_isIn a1 a2 a3 z Kp) : kMet l yX10_isIn cX10_isIn 3 (some .boolean) 0 NM kdM D cA ad sa [kI a1, kI a2, kI a3] z (kQi NM kdM D cA ad (fun v z1 => z1 = z ∧ Kp v)) := by
  unfold cal_X10_isIn at h
  refine k_met (cc := cX10_isIn) (own := RX10) (nL := 3) rfl rfl (Nat.le_of_ble_eq_true rfl) hj kltM (fun p e s m below meth c X hrt hlk => ?_)
  refine k_sub (lv' := [(0, kI a1), (1, kI a2), (2, kI a3)]) [0, 1, 2] rfl ?_
  refine k_iload_n X dX10_isIn_0 0 rfl ?_
  refine k_iload_n X dX10_isIn_1 1 rfl ?_
  refine k_icmp_lt (tgt := 14) X dX10_isIn_2 (by decide) h (fun h => ?_) (fun h => ?_)
  · refine k_iconst X dX10_isIn_14 ?_
    exact k_zret X hrt hlk dX10_isIn_15 ⟨Or.inl rfl, ⟨rfl, h⟩⟩
  · refine k_iload_n X dX10_isIn_5 0 rfl ?_
    refine k_iload_n X dX10_isIn_6 2 rfl ?_
    refine k_icmp_gt (tgt := 14) X dX10_isIn_7 (by decide) h (fun h => ?_) (fun h => ?_)
    · refine k_iconst X dX10_isIn_14 ?_
      exact k_zret X hrt hlk dX10_isIn_15 ⟨Or.inl rfl, ⟨rfl, h⟩⟩
    · refine k_iconst X dX10_isIn_10 ?_
      refine k_goto (tgt := 15) X dX10_isIn_11 (by decide) ?_
      exact k_zret X hrt hlk dX10_isIn_15 ⟨Or.inr rfl, ⟨rfl, h⟩⟩
set_option maxHeartbeats 4000000 in
set_option maxRecDepth 100000 in
theorem ct_X10_isPerson {l : Launch} {D : va_G} {cA : Nat → ClassId} {ad sa : Nat → Nat} (hj : kInj NM ad) (a1 : Int) (z : Hp) (Kp : Int → Prop) (h : cal_X10_isPerson a1 z Kp) : kMet l yX10_isPerson cX10_isPerson 2 (some .boolean) 1 NM kdM D cA ad sa [.ref (ad 0), kI a1] z (kQi NM kdM D cA ad (fun v z1 => z1 = z ∧ Kp v)) := by
  unfold cal_X10_isPerson at h
  refine k_met (cc := cX10_isPerson) (own := RX10) (nL := 2) rfl rfl (Nat.le_of_ble_eq_true rfl) hj kltM (fun p e s m below meth c X hrt hlk => ?_)
  refine k_sub (lv' := [(0, .ref (ad 0)), (1, kI a1)]) [0, 1] rfl ?_
  refine k_iload_n X dX10_isPerson_0 1 rfl ?_
  refine k_iconst X dX10_isPerson_1 ?_
  refine k_aload_n X dX10_isPerson_2 0 rfl ?_
  refine k_getR (t := 1) X fk_X10_11 (by rfl) (by decide) rfl dX10_isPerson_3 ?_
  refine k_iconst X dX10_isPerson_6 ?_
  refine k_iald X kzM_1 (Nat.le_of_ble_eq_true rfl) dX10_isPerson_7 ⟨⟨by decide, by decide⟩, h⟩ (fun h => ?_)
  refine k_iconst X dX10_isPerson_8 ?_
  refine k_isub X dX10_isPerson_9 ?_
  refine k_afterP (st := []) (fun H locs ls hP hS hl => k_runS (As := [kI a1, kI 0, kI ((z 1 0) - 1)]) X lk_X10_72 yo_X10_isIn rfl (kR_ok (by decide) (by decide)) (ct_X10_isIn (kCx_j X) _ _ _ _ _ h) (Nat.le_of_ble_eq_true rfl) dX10_isPerson_10 hP hS hl) (fun v1 h => ?_)
  exact k_zret X hrt hlk dX10_isPerson_13 ⟨h.1, ⟨rfl, h.2⟩⟩
set_option maxHeartbeats 4000000 in
set_option maxRecDepth 100000 in
theorem ct_X10_areTwo {l : Launch} {D : va_G} {cA : Nat → ClassId} {ad sa : Nat → Nat} (hj : kInj NM ad) (a1 : Int) (a2 : Int) (z : Hp) (Kp : Int → Prop) (h : cal_X10_areTwo a1 a2 z Kp) : kMet l yX10_areTwo cX10_areTwo 3 (some .boolean) 2 NM kdM D cA ad sa [.ref (ad 0), kI a1, kI a2] z (kQi NM kdM D cA ad (fun v z1 => z1 = z ∧ Kp v)) := by
  unfold cal_X10_areTwo at h
  refine k_met (cc := cX10_areTwo) (own := RX10) (nL := 3) rfl rfl (Nat.le_of_ble_eq_true rfl) hj kltM (fun p e s m below meth c X hrt hlk => ?_)
  refine k_sub (lv' := [(0, .ref (ad 0)), (1, kI a1), (2, kI a2)]) [0, 1, 2] rfl ?_
  refine k_aload_n X dX10_areTwo_0 0 rfl ?_
  refine k_iload_n X dX10_areTwo_1 1 rfl ?_
  refine k_afterP (st := []) (fun H locs ls hP hS hl => k_runV (As := [kI a1]) X lk_X10_170 rfl yo_X10_isPerson rfl (kR_ok (by decide) (by decide)) (ct_X10_isPerson (kCx_j X) _ _ _ h) (by rfl) rfl (Nat.le_of_ble_eq_true rfl) dX10_areTwo_2 hP hS hl) (fun v1 h => ?_)
  refine k_if_eq (tgt := 20) X dX10_areTwo_5 (by decide) h (fun h => ?_) (fun h => ?_)
  · refine k_iconst X dX10_areTwo_20 ?_
    exact k_zret X hrt hlk dX10_areTwo_21 ⟨Or.inl rfl, ⟨rfl, h⟩⟩
  · refine k_aload_n X dX10_areTwo_8 0 rfl ?_
    refine k_iload_n X dX10_areTwo_9 2 rfl ?_
    refine k_afterP (st := []) (fun H locs ls hP hS hl => k_runV (As := [kI a2]) X lk_X10_170 rfl yo_X10_isPerson rfl (kR_ok (by decide) (by decide)) (ct_X10_isPerson (kCx_j X) _ _ _ h) (by rfl) rfl (Nat.le_of_ble_eq_true rfl) dX10_areTwo_10 hP hS hl) (fun v2 h => ?_)
    refine k_if_eq (tgt := 20) X dX10_areTwo_13 (by decide) h (fun h => ?_) (fun h => ?_)
    · refine k_iconst X dX10_areTwo_20 ?_
      exact k_zret X hrt hlk dX10_areTwo_21 ⟨Or.inl rfl, ⟨rfl, h⟩⟩
    · refine k_iconst X dX10_areTwo_16 ?_
      refine k_goto (tgt := 21) X dX10_areTwo_17 (by decide) ?_
      exact k_zret X hrt hlk dX10_areTwo_21 ⟨Or.inr rfl, ⟨rfl, h⟩⟩
set_option maxHeartbeats 4000000 in
set_option maxRecDepth 100000 in
theorem ct_X10_bornOf {l : Launch} {D : va_G} {cA : Nat → ClassId} {ad sa : Nat → Nat} (hj : kInj NM ad) (a1 : Int) (z : Hp) (Kp : Int → Prop) (h : cal_X10_bornOf a1 z Kp) : kMet l yX10_bornOf cX10_bornOf 1 (some .int) 0 NM kdM D cA ad sa [kI a1] z (kQi NM kdM D cA ad (fun v z1 => z1 = z ∧ Kp v)) := by
  unfold cal_X10_bornOf at h
  refine k_met (cc := cX10_bornOf) (own := RX10) (nL := 1) rfl rfl (Nat.le_of_ble_eq_true rfl) hj kltM (fun p e s m below meth c X hrt hlk => ?_)
  refine k_sub (lv' := [(0, kI a1)]) [0] rfl ?_
  refine k_iconst X dX10_bornOf_0 ?_
  refine k_iload_n X dX10_bornOf_1 0 rfl ?_
  refine k_imul X dX10_bornOf_2 ?_
  exact k_iret X hrt hlk dX10_bornOf_3 ⟨rfl, h⟩
set_option maxHeartbeats 4000000 in
set_option maxRecDepth 100000 in
theorem ct_X10_endOf {l : Launch} {D : va_G} {cA : Nat → ClassId} {ad sa : Nat → Nat} (hj : kInj NM ad) (a1 : Int) (a2 : Int) (a3 : Int) (z : Hp) (Kp : Int → Prop) (h : cal_X10_endOf a1 a2 a3 z Kp) : kMet l yX10_endOf cX10_endOf 4 (some .int) 1 NM kdM D cA ad sa [.ref (ad 0), kI a1, kI a2, kI a3] z (kQi NM kdM D cA ad (fun v z1 => z1 = z ∧ Kp v)) := by
  unfold cal_X10_endOf at h
  refine k_met (cc := cX10_endOf) (own := RX10) (nL := 4) rfl rfl (Nat.le_of_ble_eq_true rfl) hj kltM (fun p e s m below meth c X hrt hlk => ?_)
  refine k_sub (lv' := [(0, .ref (ad 0)), (1, kI a1), (2, kI a2), (3, kI a3)]) [0, 1, 2, 3] rfl ?_
  refine k_iconst X dX10_endOf_0 ?_
  refine k_aload_n X dX10_endOf_1 0 rfl ?_
  refine k_getR (t := 6) X fk_X10_27 (by rfl) (by decide) rfl dX10_endOf_2 ?_
  refine k_iload_n X dX10_endOf_5 1 rfl ?_
  refine k_iald X kzM_6 (Nat.le_of_ble_eq_true rfl) dX10_endOf_6 h (fun h => ?_)
  refine k_afterP (st := [kI 2]) (fun H locs ls hP hS hl => k_runS (As := [kI (z 6 a1.toNat)]) X lk_X10_128 yo_X10_bornOf rfl (kR_ok (by decide) (by decide)) (ct_X10_bornOf (kCx_j X) _ _ _ h) (Nat.le_of_ble_eq_true rfl) dX10_endOf_7 hP hS hl) (fun v1 h => ?_)
  refine k_iload_n X dX10_endOf_10 2 rfl ?_
  refine k_iadd X dX10_endOf_11 ?_
  refine k_imul X dX10_endOf_12 ?_
  refine k_iload_n X dX10_endOf_13 3 rfl ?_
  refine k_iadd X dX10_endOf_14 ?_
  exact k_iret X hrt hlk dX10_endOf_15 ⟨rfl, h⟩
set_option maxHeartbeats 4000000 in
set_option maxRecDepth 100000 in
theorem ct_X10_ahead {l : Launch} {D : va_G} {cA : Nat → ClassId} {ad sa : Nat → Nat} (hj : kInj NM ad) (a1 : Int) (a2 : Int) (z : Hp) (Kp : Int → Prop) (h : cal_X10_ahead a1 a2 z Kp) : kMet l yX10_ahead cX10_ahead 5 (some .int) 3 NM kdM D cA ad sa [.ref (ad 0), kI a1, kI a2] z (kQi NM kdM D cA ad (fun v z1 => z1 = z ∧ Kp v)) := by
  unfold cal_X10_ahead at h
  refine k_met (cc := cX10_ahead) (own := RX10) (nL := 5) rfl rfl (Nat.le_of_ble_eq_true rfl) hj kltM (fun p e s m below meth c X hrt hlk => ?_)
  refine k_sub (lv' := [(0, .ref (ad 0)), (1, kI a1), (2, kI a2)]) [0, 1, 2] rfl ?_
  refine k_aload_n X dX10_ahead_0 0 rfl ?_
  refine k_iload_n X dX10_ahead_1 1 rfl ?_
  refine k_iload_n X dX10_ahead_2 2 rfl ?_
  refine k_afterP (st := []) (fun H locs ls hP hS hl => k_runV (As := [kI a1, kI a2]) X lk_X10_268 rfl yo_X10_areTwo rfl (kR_ok (by decide) (by decide)) (ct_X10_areTwo (kCx_j X) _ _ _ _ h) (by rfl) rfl (Nat.le_of_ble_eq_true rfl) dX10_ahead_3 hP hS hl) (fun v1 h => ?_)
  refine k_if_ne (tgt := 11) X dX10_ahead_6 (by decide) h (fun h => ?_) (fun h => ?_)
  · refine k_aload_n X dX10_ahead_11 0 rfl ?_
    refine k_iload_n X dX10_ahead_12 1 rfl ?_
    refine k_iconst X dX10_ahead_13 ?_
    refine k_iconst X dX10_ahead_14 ?_
    refine k_afterP (st := []) (fun H locs ls hP hS hl => k_runV (As := [kI a1, kI 0, kI 0]) X lk_X10_246 rfl yo_X10_endOf rfl (kR_ok (by decide) (by decide)) (ct_X10_endOf (kCx_j X) _ _ _ _ _ h) (by rfl) rfl (Nat.le_of_ble_eq_true rfl) dX10_ahead_15 hP hS hl) (fun v2 h => ?_)
    refine k_istore_n X dX10_ahead_18 h (fun v3 => [(3, kI v3), (0, .ref (ad 0)), (1, kI a1), (2, kI a2)]) (by decide) (fun _ => rfl) (fun v3 h => ?_)
    refine k_aload_n X dX10_ahead_19 1 rfl ?_
    refine k_iload_n X dX10_ahead_20 3 rfl ?_
    refine k_iconst X dX10_ahead_21 ?_
    refine k_iconst X dX10_ahead_22 ?_
    refine k_afterP (st := []) (fun H locs ls hP hS hl => k_runV (As := [kI a2, kI 0, kI 0]) X lk_X10_246 rfl yo_X10_endOf rfl (kR_ok (by decide) (by decide)) (ct_X10_endOf (kCx_j X) _ _ _ _ _ h) (by rfl) rfl (Nat.le_of_ble_eq_true rfl) dX10_ahead_23 hP hS hl) (fun v4 h => ?_)
    refine k_istore X dX10_ahead_26 h (fun v5 => [(4, kI v5), (3, kI v3), (0, .ref (ad 0)), (1, kI a1), (2, kI a2)]) (by decide) (fun _ => rfl) (fun v5 h => ?_)
    refine k_iload_n X dX10_ahead_28 1 rfl ?_
    refine k_iload X dX10_ahead_29 0 rfl ?_
    refine k_icmp_ne (tgt := 38) X dX10_ahead_31 (by decide) h (fun h => ?_) (fun h => ?_)
    · refine k_aload_n X dX10_ahead_38 2 rfl ?_
      refine k_getR (t := 10) X fk_X10_39 (by rfl) (by decide) rfl dX10_ahead_39 ?_
      refine k_iload_n X dX10_ahead_42 1 rfl ?_
      refine k_iconst X dX10_ahead_43 ?_
      refine k_iadd X dX10_ahead_44 ?_
      refine k_iald X kzM_10 (Nat.le_of_ble_eq_true rfl) dX10_ahead_45 h (fun h => ?_)
      refine k_aload_n X dX10_ahead_46 2 rfl ?_
      refine k_getR (t := 10) X fk_X10_39 (by rfl) (by decide) rfl dX10_ahead_47 ?_
      refine k_iload X dX10_ahead_50 0 rfl ?_
      refine k_iald X kzM_10 (Nat.le_of_ble_eq_true rfl) dX10_ahead_52 h (fun h => ?_)
      refine k_icmp_ge (tgt := 60) X dX10_ahead_53 (by decide) h (fun h => ?_) (fun h => ?_)
      · refine k_aload_n X dX10_ahead_60 2 rfl ?_
        refine k_getR (t := 10) X fk_X10_39 (by rfl) (by decide) rfl dX10_ahead_61 ?_
        refine k_iload_n X dX10_ahead_64 1 rfl ?_
        refine k_iald X kzM_10 (Nat.le_of_ble_eq_true rfl) dX10_ahead_65 h (fun h => ?_)
        refine k_aload_n X dX10_ahead_66 2 rfl ?_
        refine k_getR (t := 10) X fk_X10_39 (by rfl) (by decide) rfl dX10_ahead_67 ?_
        refine k_iload X dX10_ahead_70 0 rfl ?_
        refine k_iconst X dX10_ahead_72 ?_
        refine k_iadd X dX10_ahead_73 ?_
        refine k_iald X kzM_10 (Nat.le_of_ble_eq_true rfl) dX10_ahead_74 h (fun h => ?_)
        refine k_icmp_le (tgt := 82) X dX10_ahead_75 (by decide) h (fun h => ?_) (fun h => ?_)
        · refine k_iconst X dX10_ahead_82 ?_
          exact k_iret X hrt hlk dX10_ahead_83 ⟨rfl, h⟩
        · refine k_iconst X dX10_ahead_78 ?_
          refine k_goto (tgt := 83) X dX10_ahead_79 (by decide) ?_
          exact k_iret X hrt hlk dX10_ahead_83 ⟨rfl, h⟩
      · refine k_iconst X dX10_ahead_56 ?_
        refine k_goto (tgt := 83) X dX10_ahead_57 (by decide) ?_
        exact k_iret X hrt hlk dX10_ahead_83 ⟨rfl, h⟩
    · refine k_iconst X dX10_ahead_34 ?_
      refine k_goto (tgt := 83) X dX10_ahead_35 (by decide) ?_
      exact k_iret X hrt hlk dX10_ahead_83 ⟨rfl, h⟩
  · refine k_iconst X dX10_ahead_9 ?_
    exact k_iret X hrt hlk dX10_ahead_10 ⟨rfl, h⟩
set_option maxHeartbeats 4000000 in
set_option maxRecDepth 100000 in
theorem ct_X10_ancestors {l : Launch} {D : va_G} {cA : Nat → ClassId} {ad sa : Nat → Nat} (hj : kInj NM ad) (a1 : Int) (z : Hp) (Kp : Int → Prop) (h : cal_X10_ancestors a1 z Kp) : kMet l yX10_ancestors cX10_ancestors 2 (some .long) 2 NM kdM D cA ad sa [.ref (ad 0), kI a1] z (kQl NM kdM D cA ad (fun v z1 => z1 = z ∧ Kp v)) := by
  unfold cal_X10_ancestors at h
  refine k_met (cc := cX10_ancestors) (own := RX10) (nL := 2) rfl rfl (Nat.le_of_ble_eq_true rfl) hj kltM (fun p e s m below meth c X hrt hlk => ?_)
  refine k_sub (lv' := [(0, .ref (ad 0)), (1, kI a1)]) [0, 1] rfl ?_
  refine k_aload_n X dX10_ancestors_0 0 rfl ?_
  refine k_iload_n X dX10_ancestors_1 1 rfl ?_
  refine k_afterP (st := []) (fun H locs ls hP hS hl => k_runV (As := [kI a1]) X lk_X10_170 rfl yo_X10_isPerson rfl (kR_ok (by decide) (by decide)) (ct_X10_isPerson (kCx_j X) _ _ _ h) (by rfl) rfl (Nat.le_of_ble_eq_true rfl) dX10_ancestors_2 hP hS hl) (fun v1 h => ?_)
  refine k_if_eq (tgt := 23) X dX10_ancestors_5 (by decide) h (fun h => ?_) (fun h => ?_)
  · refine k_ldc2 X (-9223372036854775808) mw1209 dX10_ancestors_23 ?_
    exact k_lret X hrt hlk dX10_ancestors_26 ⟨rfl, h⟩
  · refine k_aload_n X dX10_ancestors_8 0 rfl ?_
    refine k_getR (t := 9) X fk_X10_36 (by rfl) (by decide) rfl dX10_ancestors_9 ?_
    refine k_aload_n X dX10_ancestors_12 0 rfl ?_
    refine k_getR (t := 6) X fk_X10_27 (by rfl) (by decide) rfl dX10_ancestors_13 ?_
    refine k_iload_n X dX10_ancestors_16 1 rfl ?_
    refine k_iald X kzM_6 (Nat.le_of_ble_eq_true rfl) dX10_ancestors_17 h (fun h => ?_)
    refine k_iald X kzM_9 (Nat.le_of_ble_eq_true rfl) dX10_ancestors_18 h (fun h => ?_)
    refine k_i2l X dX10_ancestors_19 h (fun h => ?_)
    refine k_goto (tgt := 26) X dX10_ancestors_20 (by decide) ?_
    exact k_lret X hrt hlk dX10_ancestors_26 ⟨rfl, h⟩
set_option maxHeartbeats 4000000 in
set_option maxRecDepth 100000 in
theorem ct_X10_narrows {l : Launch} {D : va_G} {cA : Nat → ClassId} {ad sa : Nat → Nat} (hj : kInj NM ad) (a1 : Int) (a2 : Int) (a3 : Int) (z : Hp) (Kp : Hp → Prop) (h : cal_X10_narrows a1 a2 a3 z Kp) : kMet l yX10_narrows cX10_narrows 5 none 0 NM kdM D cA ad sa [.ref (ad 0), kI a1, kI a2, kI a3] z (kQv NM kdM D cA ad Kp) := by
  unfold cal_X10_narrows at h
  refine k_met (cc := cX10_narrows) (own := RX10) (nL := 5) rfl rfl (Nat.le_of_ble_eq_true rfl) hj kltM (fun p e s m below meth c X hrt hlk => ?_)
  refine k_sub (lv' := [(0, .ref (ad 0)), (1, kI a1), (2, kI a2), (3, kI a3)]) [0, 1, 2, 3] rfl ?_
  refine k_aload_n X dX10_narrows_0 0 rfl ?_
  refine k_getI X fk_X10_96 (by rfl) rfl dX10_narrows_1 ?_
  refine k_if_eq (tgt := 8) X dX10_narrows_4 (by decide) h (fun h => ?_) (fun h => ?_)
  · refine k_iload_n X dX10_narrows_8 1 rfl ?_
    refine k_iconst X dX10_narrows_9 ?_
    refine k_irem X dX10_narrows_10 ⟨by decide, by decide⟩ h (fun h => ?_)
    refine k_iconst X dX10_narrows_11 ?_
    refine jn_use (fun J2 => ∀ (v1 : Int), J2 v1 → kAt p l e (kR 0) s m ([.ref (ad 0), kI a1, kI a2, kI a3] : List Value).toArray below meth c (MQ below (kQv NM kdM D cA ad Kp) ([.ref (ad 0), kI a1, kI a2, kI a3] : List Value).toArray s 0 0 (kA NM ad)) 5 NM kdM D cA ad 22 [(0, .ref (ad 0)), (1, kI a1), (2, kI a2), (3, kI a3), (4, kI v1)] [] z) h ?_ (fun J2 hJ2 h => ?_)
    · intro v1 h
      refine k_iload X dX10_narrows_22 4 rfl ?_
      refine jn_use (fun J3 => J3 → kAt p l e (kR 0) s m ([.ref (ad 0), kI a1, kI a2, kI a3] : List Value).toArray below meth c (MQ below (kQv NM kdM D cA ad Kp) ([.ref (ad 0), kI a1, kI a2, kI a3] : List Value).toArray s 0 0 (kA NM ad)) 5 NM kdM D cA ad 51 [(0, .ref (ad 0)), (1, kI a1), (2, kI a2), (3, kI a3)] [] z) h ?_ (fun J3 hJ3 h => ?_)
      · intro h
        refine k_aload_n X dX10_narrows_51 0 rfl ?_
        refine k_getR (t := 10) X fk_X10_39 (by rfl) (by decide) rfl dX10_narrows_52 ?_
        refine k_iload_n X dX10_narrows_55 1 rfl ?_
        refine k_iload_n X dX10_narrows_56 2 rfl ?_
        refine k_iast X kzM_10 (Nat.le_of_ble_eq_true rfl) dX10_narrows_57 h (fun h => k_nameH h (fun z4 h => ?_))
        refine k_aload_n X dX10_narrows_58 0 rfl ?_
        refine k_getR (t := 11) X fk_X10_42 (by rfl) (by decide) rfl dX10_narrows_59 ?_
        refine k_iload_n X dX10_narrows_62 1 rfl ?_
        refine k_aload_n X dX10_narrows_63 0 rfl ?_
        refine k_getI X fk_X10_117 (by rfl) rfl dX10_narrows_64 ?_
        refine k_iast X kzM_11 (Nat.le_of_ble_eq_true rfl) dX10_narrows_67 h (fun h => k_nameH h (fun z5 h => ?_))
        refine k_aload_n X dX10_narrows_68 0 rfl ?_
        refine k_getR (t := 12) X fk_X10_45 (by rfl) (by decide) rfl dX10_narrows_69 ?_
        refine k_iload_n X dX10_narrows_72 1 rfl ?_
        refine k_iload_n X dX10_narrows_73 3 rfl ?_
        refine k_iast X kzM_12 (Nat.le_of_ble_eq_true rfl) dX10_narrows_74 h (fun h => k_nameH h (fun z6 h => ?_))
        refine k_aload_n X dX10_narrows_75 0 rfl ?_
        refine k_iconst X dX10_narrows_76 ?_
        refine k_putZ X fp_X10_120 (by rfl) rfl (Or.inr rfl) dX10_narrows_77 (k_nameH h (fun z7 h => ?_))
        refine k_aload_n X dX10_narrows_80 0 rfl ?_
        refine k_getR (t := 10) X fk_X10_39 (by rfl) (by decide) rfl dX10_narrows_81 ?_
        refine k_iload_n X dX10_narrows_84 1 rfl ?_
        refine k_bipush X dX10_narrows_85 (by decide +kernel) ?_
        refine k_iand X dX10_narrows_87 ?_
        refine k_iald X kzM_10 (Nat.le_of_ble_eq_true rfl) dX10_narrows_88 h (fun h => ?_)
        refine k_aload_n X dX10_narrows_89 0 rfl ?_
        refine k_getR (t := 10) X fk_X10_39 (by rfl) (by decide) rfl dX10_narrows_90 ?_
        refine k_iload_n X dX10_narrows_93 1 rfl ?_
        refine k_iconst X dX10_narrows_94 ?_
        refine k_ior X dX10_narrows_95 ?_
        refine k_iald X kzM_10 (Nat.le_of_ble_eq_true rfl) dX10_narrows_96 h (fun h => ?_)
        refine k_icmp_le (tgt := 112) X dX10_narrows_97 (by decide) h (fun h => ?_) (fun h => ?_)
        · exact k_vret X hrt hlk dX10_narrows_112 h
        · refine k_aload_n X dX10_narrows_100 0 rfl ?_
          refine k_iconst X dX10_narrows_101 ?_
          refine k_putI X fp_X10_96 (by rfl) rfl dX10_narrows_102 (k_nameH h (fun z8 h => ?_))
          refine k_aload_n X dX10_narrows_105 0 rfl ?_
          refine k_iload_n X dX10_narrows_106 1 rfl ?_
          refine k_iconst X dX10_narrows_107 ?_
          refine k_idiv X dX10_narrows_108 ⟨by decide, by decide⟩ h (fun h => ?_)
          refine k_putI X fp_X10_100 (by rfl) rfl dX10_narrows_109 (k_nameH h (fun z9 h => ?_))
          exact k_vret X hrt hlk dX10_narrows_112 h
      · refine k_if_eq (tgt := 40) X dX10_narrows_24 (by decide) h (fun h => ?_) (fun h => ?_)
        · refine k_aload_n X dX10_narrows_40 0 rfl ?_
          refine k_getR (t := 10) X fk_X10_39 (by rfl) (by decide) rfl dX10_narrows_41 ?_
          refine k_iload_n X dX10_narrows_44 1 rfl ?_
          refine k_iald X kzM_10 (Nat.le_of_ble_eq_true rfl) dX10_narrows_45 h (fun h => ?_)
          refine k_iload_n X dX10_narrows_46 2 rfl ?_
          refine k_icmp_lt (tgt := 51) X dX10_narrows_47 (by decide) h (fun h => ?_) (fun h => ?_)
          · exact k_sub [0, 1, 2, 3] rfl (hJ3 h)
          · exact k_vret X hrt hlk dX10_narrows_50 h
        · refine k_aload_n X dX10_narrows_27 0 rfl ?_
          refine k_getR (t := 10) X fk_X10_39 (by rfl) (by decide) rfl dX10_narrows_28 ?_
          refine k_iload_n X dX10_narrows_31 1 rfl ?_
          refine k_iald X kzM_10 (Nat.le_of_ble_eq_true rfl) dX10_narrows_32 h (fun h => ?_)
          refine k_iload_n X dX10_narrows_33 2 rfl ?_
          refine k_icmp_gt (tgt := 51) X dX10_narrows_34 (by decide) h (fun h => ?_) (fun h => ?_)
          · exact k_sub [0, 1, 2, 3] rfl (hJ3 h)
          · refine k_goto (tgt := 50) X dX10_narrows_37 (by decide) ?_
            exact k_vret X hrt hlk dX10_narrows_50 h
    · refine k_icmp_ne (tgt := 19) X dX10_narrows_12 (by decide) ⟨h.1, ⟨by decide, by decide⟩, h.2⟩ (fun h => ?_) (fun h => ?_)
      · refine k_iconst X dX10_narrows_19 ?_
        refine k_istore X dX10_narrows_20 h (fun v10 => [(4, kI v10), (0, .ref (ad 0)), (1, kI a1), (2, kI a2), (3, kI a3)]) (by decide) (fun _ => rfl) (fun v10 h => ?_)
        exact k_sub [1, 2, 3, 4, 0] rfl (hJ2 _ h)
      · refine k_iconst X dX10_narrows_15 ?_
        refine k_goto (tgt := 20) X dX10_narrows_16 (by decide) ?_
        refine k_istore X dX10_narrows_20 h (fun v11 => [(4, kI v11), (0, .ref (ad 0)), (1, kI a1), (2, kI a2), (3, kI a3)]) (by decide) (fun _ => rfl) (fun v11 h => ?_)
        exact k_sub [1, 2, 3, 4, 0] rfl (hJ2 _ h)
  · exact k_vret X hrt hlk dX10_narrows_7 h
set_option maxHeartbeats 4000000 in
set_option maxRecDepth 100000 in
theorem ct_X10_differ {l : Launch} {D : va_G} {cA : Nat → ClassId} {ad sa : Nat → Nat} (hj : kInj NM ad) (a1 : Int) (a2 : Int) (a3 : Int) (a4 : Int) (z : Hp) (Kp : Hp → Prop) (h : cal_X10_differ a1 a2 a3 a4 z Kp) : kMet l yX10_differ cX10_differ 6 none 1 NM kdM D cA ad sa [.ref (ad 0), kI a1, kI a2, kI a3, kI a4] z (kQv NM kdM D cA ad Kp) := by
  unfold cal_X10_differ at h
  refine k_met (cc := cX10_differ) (own := RX10) (nL := 6) rfl rfl (Nat.le_of_ble_eq_true rfl) hj kltM (fun p e s m below meth c X hrt hlk => ?_)
  refine k_sub (lv' := [(0, .ref (ad 0)), (1, kI a1), (2, kI a2), (3, kI a3), (4, kI a4)]) [0, 1, 2, 3, 4] rfl ?_
  refine k_iload X dX10_differ_0 4 rfl ?_
  refine k_sipush X dX10_differ_2 (by decide +kernel) ?_
  refine jn_use (fun J2 => ∀ (v1 : Int), J2 v1 → kAt p l e (kR 1) s m ([.ref (ad 0), kI a1, kI a2, kI a3, kI a4] : List Value).toArray below meth c (MQ below (kQv NM kdM D cA ad Kp) ([.ref (ad 0), kI a1, kI a2, kI a3, kI a4] : List Value).toArray s 0 0 (kA NM ad)) 6 NM kdM D cA ad 15 [(0, .ref (ad 0)), (1, kI a1), (2, kI a2), (3, kI a3), (4, kI a4), (5, kI v1)] [] z) h ?_ (fun J2 hJ2 h => ?_)
  · intro v1 h
    refine k_aload_n X dX10_differ_15 0 rfl ?_
    refine k_iconst X dX10_differ_16 ?_
    refine k_iload_n X dX10_differ_17 1 rfl ?_
    refine k_imul X dX10_differ_18 ?_
    refine k_aload_n X dX10_differ_19 0 rfl ?_
    refine k_getR (t := 10) X fk_X10_39 (by rfl) (by decide) rfl dX10_differ_20 ?_
    refine k_iconst X dX10_differ_23 ?_
    refine k_iload_n X dX10_differ_24 2 rfl ?_
    refine k_imul X dX10_differ_25 ?_
    refine k_iald X kzM_10 (Nat.le_of_ble_eq_true rfl) dX10_differ_26 h (fun h => ?_)
    refine k_iload_n X dX10_differ_27 3 rfl ?_
    refine k_iadd X dX10_differ_28 ?_
    refine k_iconst X dX10_differ_29 ?_
    refine k_iload_n X dX10_differ_30 2 rfl ?_
    refine k_imul X dX10_differ_31 ?_
    refine k_afterV (st := []) (fun H locs ls hP hS hl => k_runV (As := [kI (2 * a1), kI ((z 10 (2 * a2).toNat) + a3), kI (2 * a2)]) X lk_X10_124 rfl yo_X10_narrows rfl (kR_ok (by decide) (by decide)) (ct_X10_narrows (kCx_j X) _ _ _ _ _ h) (by rfl) rfl (Nat.le_of_ble_eq_true rfl) dX10_differ_32 hP hS hl) (fun z3 h => ?_)
    refine k_iload X dX10_differ_35 5 rfl ?_
    refine jn_use (fun J4 => ∀ (z5 : Hp), J4 z5 → kAt p l e (kR 1) s m ([.ref (ad 0), kI a1, kI a2, kI a3, kI a4] : List Value).toArray below meth c (MQ below (kQv NM kdM D cA ad Kp) ([.ref (ad 0), kI a1, kI a2, kI a3, kI a4] : List Value).toArray s 0 0 (kA NM ad)) 6 NM kdM D cA ad 67 [(0, .ref (ad 0)), (1, kI a1), (2, kI a2), (3, kI a3), (4, kI a4), (5, kI v1)] [] z5) h ?_ (fun J4 hJ4 h => ?_)
    · intro z5 h
      refine k_iload X dX10_differ_67 5 rfl ?_
      refine jn_use (fun J6 => ∀ (z7 : Hp), J6 z7 → kAt p l e (kR 1) s m ([.ref (ad 0), kI a1, kI a2, kI a3, kI a4] : List Value).toArray below meth c (MQ below (kQv NM kdM D cA ad Kp) ([.ref (ad 0), kI a1, kI a2, kI a3, kI a4] : List Value).toArray s 0 0 (kA NM ad)) 6 NM kdM D cA ad 93 [(0, .ref (ad 0)), (1, kI a1), (2, kI a2), (3, kI a3)] [] z7) h ?_ (fun J6 hJ6 h => ?_)
      · intro z7 h
        refine k_aload_n X dX10_differ_93 0 rfl ?_
        refine k_iconst X dX10_differ_94 ?_
        refine k_iload_n X dX10_differ_95 2 rfl ?_
        refine k_imul X dX10_differ_96 ?_
        refine k_iconst X dX10_differ_97 ?_
        refine k_iadd X dX10_differ_98 ?_
        refine k_aload_n X dX10_differ_99 0 rfl ?_
        refine k_getR (t := 10) X fk_X10_39 (by rfl) (by decide) rfl dX10_differ_100 ?_
        refine k_iconst X dX10_differ_103 ?_
        refine k_iload_n X dX10_differ_104 1 rfl ?_
        refine k_imul X dX10_differ_105 ?_
        refine k_iconst X dX10_differ_106 ?_
        refine k_iadd X dX10_differ_107 ?_
        refine k_iald X kzM_10 (Nat.le_of_ble_eq_true rfl) dX10_differ_108 h (fun h => ?_)
        refine k_iload_n X dX10_differ_109 3 rfl ?_
        refine k_isub X dX10_differ_110 ?_
        refine k_iconst X dX10_differ_111 ?_
        refine k_iload_n X dX10_differ_112 1 rfl ?_
        refine k_imul X dX10_differ_113 ?_
        refine k_iconst X dX10_differ_114 ?_
        refine k_iadd X dX10_differ_115 ?_
        refine k_afterV (st := []) (fun H locs ls hP hS hl => k_runV (As := [kI ((2 * a2) + 1), kI ((z7 10 ((2 * a1) + 1).toNat) - a3), kI ((2 * a1) + 1)]) X lk_X10_124 rfl yo_X10_narrows rfl (kR_ok (by decide) (by decide)) (ct_X10_narrows (kCx_j X) _ _ _ _ _ h) (by rfl) rfl (Nat.le_of_ble_eq_true rfl) dX10_differ_116 hP hS hl) (fun z8 h => ?_)
        exact k_vret X hrt hlk dX10_differ_119 h
      · refine k_if_ne (tgt := 93) X dX10_differ_69 (by decide) h (fun h => ?_) (fun h => ?_)
        · exact k_sub [0, 1, 2, 3] rfl (hJ6 _ h)
        · refine k_aload_n X dX10_differ_72 0 rfl ?_
          refine k_iconst X dX10_differ_73 ?_
          refine k_iload_n X dX10_differ_74 2 rfl ?_
          refine k_imul X dX10_differ_75 ?_
          refine k_aload_n X dX10_differ_76 0 rfl ?_
          refine k_getR (t := 10) X fk_X10_39 (by rfl) (by decide) rfl dX10_differ_77 ?_
          refine k_iconst X dX10_differ_80 ?_
          refine k_iload_n X dX10_differ_81 1 rfl ?_
          refine k_imul X dX10_differ_82 ?_
          refine k_iald X kzM_10 (Nat.le_of_ble_eq_true rfl) dX10_differ_83 h (fun h => ?_)
          refine k_iload X dX10_differ_84 4 rfl ?_
          refine k_isub X dX10_differ_86 ?_
          refine k_iconst X dX10_differ_87 ?_
          refine k_iload_n X dX10_differ_88 1 rfl ?_
          refine k_imul X dX10_differ_89 ?_
          refine k_afterV (st := []) (fun H locs ls hP hS hl => k_runV (As := [kI (2 * a2), kI ((z5 10 (2 * a1).toNat) - a4), kI (2 * a1)]) X lk_X10_124 rfl yo_X10_narrows rfl (kR_ok (by decide) (by decide)) (ct_X10_narrows (kCx_j X) _ _ _ _ _ h) (by rfl) rfl (Nat.le_of_ble_eq_true rfl) dX10_differ_90 hP hS hl) (fun z9 h => ?_)
          exact k_sub [0, 1, 2, 3] rfl (hJ6 _ h)
    · refine k_if_ne (tgt := 67) X dX10_differ_37 (by decide) h (fun h => ?_) (fun h => ?_)
      · exact k_sub [0, 1, 2, 3, 4, 5] rfl (hJ4 _ h)
      · refine k_aload_n X dX10_differ_40 0 rfl ?_
        refine k_iconst X dX10_differ_41 ?_
        refine k_iload_n X dX10_differ_42 1 rfl ?_
        refine k_imul X dX10_differ_43 ?_
        refine k_iconst X dX10_differ_44 ?_
        refine k_iadd X dX10_differ_45 ?_
        refine k_aload_n X dX10_differ_46 0 rfl ?_
        refine k_getR (t := 10) X fk_X10_39 (by rfl) (by decide) rfl dX10_differ_47 ?_
        refine k_iconst X dX10_differ_50 ?_
        refine k_iload_n X dX10_differ_51 2 rfl ?_
        refine k_imul X dX10_differ_52 ?_
        refine k_iconst X dX10_differ_53 ?_
        refine k_iadd X dX10_differ_54 ?_
        refine k_iald X kzM_10 (Nat.le_of_ble_eq_true rfl) dX10_differ_55 h (fun h => ?_)
        refine k_iload X dX10_differ_56 4 rfl ?_
        refine k_iadd X dX10_differ_58 ?_
        refine k_iconst X dX10_differ_59 ?_
        refine k_iload_n X dX10_differ_60 2 rfl ?_
        refine k_imul X dX10_differ_61 ?_
        refine k_iconst X dX10_differ_62 ?_
        refine k_iadd X dX10_differ_63 ?_
        refine k_afterV (st := []) (fun H locs ls hP hS hl => k_runV (As := [kI ((2 * a1) + 1), kI ((z3 10 ((2 * a2) + 1).toNat) + a4), kI ((2 * a2) + 1)]) X lk_X10_124 rfl yo_X10_narrows rfl (kR_ok (by decide) (by decide)) (ct_X10_narrows (kCx_j X) _ _ _ _ _ h) (by rfl) rfl (Nat.le_of_ble_eq_true rfl) dX10_differ_64 hP hS hl) (fun z10 h => ?_)
        exact k_sub [0, 1, 2, 3, 4, 5] rfl (hJ4 _ h)
  · refine k_icmp_ne (tgt := 12) X dX10_differ_5 (by decide) ⟨h.1, ⟨by decide, by decide⟩, h.2⟩ (fun h => ?_) (fun h => ?_)
    · refine k_iconst X dX10_differ_12 ?_
      refine k_istore X dX10_differ_13 h (fun v11 => [(5, kI v11), (0, .ref (ad 0)), (1, kI a1), (2, kI a2), (3, kI a3), (4, kI a4)]) (by decide) (fun _ => rfl) (fun v11 h => ?_)
      exact k_sub [1, 2, 3, 4, 5, 0] rfl (hJ2 _ h)
    · refine k_iconst X dX10_differ_8 ?_
      refine k_goto (tgt := 13) X dX10_differ_9 (by decide) ?_
      refine k_istore X dX10_differ_13 h (fun v12 => [(5, kI v12), (0, .ref (ad 0)), (1, kI a1), (2, kI a2), (3, kI a3), (4, kI a4)]) (by decide) (fun _ => rfl) (fun v12 h => ?_)
      exact k_sub [1, 2, 3, 4, 5, 0] rfl (hJ2 _ h)
set_option maxHeartbeats 4000000 in
set_option maxRecDepth 100000 in
theorem ct_X10_isWithin {l : Launch} {D : va_G} {cA : Nat → ClassId} {ad sa : Nat → Nat} (hj : kInj NM ad) (a1 : Int) (a2 : Int) (a3 : Int) (z : Hp) (Kp : Hp → Prop) (h : cal_X10_isWithin a1 a2 a3 z Kp) : kMet l yX10_isWithin cX10_isWithin 4 none 1 NM kdM D cA ad sa [.ref (ad 0), kI a1, kI a2, kI a3] z (kQv NM kdM D cA ad Kp) := by
  unfold cal_X10_isWithin at h
  refine k_met (cc := cX10_isWithin) (own := RX10) (nL := 4) rfl rfl (Nat.le_of_ble_eq_true rfl) hj kltM (fun p e s m below meth c X hrt hlk => ?_)
  refine k_sub (lv' := [(0, .ref (ad 0)), (1, kI a1), (2, kI a2), (3, kI a3)]) [0, 1, 2, 3] rfl ?_
  refine k_aload_n X dX10_isWithin_0 0 rfl ?_
  refine k_iconst X dX10_isWithin_1 ?_
  refine k_iload_n X dX10_isWithin_2 1 rfl ?_
  refine k_imul X dX10_isWithin_3 ?_
  refine k_iload_n X dX10_isWithin_4 2 rfl ?_
  refine k_bipush X dX10_isWithin_5 (by decide +kernel) ?_
  refine k_afterV (st := []) (fun H locs ls hP hS hl => k_runV (As := [kI (2 * a1), kI a2, kI (-5)]) X lk_X10_124 rfl yo_X10_narrows rfl (kR_ok (by decide) (by decide)) (ct_X10_narrows (kCx_j X) _ _ _ _ _ h) (by rfl) rfl (Nat.le_of_ble_eq_true rfl) dX10_isWithin_7 hP hS hl) (fun z1 h => ?_)
  refine k_aload_n X dX10_isWithin_10 0 rfl ?_
  refine k_iconst X dX10_isWithin_11 ?_
  refine k_iload_n X dX10_isWithin_12 1 rfl ?_
  refine k_imul X dX10_isWithin_13 ?_
  refine k_iconst X dX10_isWithin_14 ?_
  refine k_iadd X dX10_isWithin_15 ?_
  refine k_iload_n X dX10_isWithin_16 3 rfl ?_
  refine k_bipush X dX10_isWithin_17 (by decide +kernel) ?_
  refine k_afterV (st := []) (fun H locs ls hP hS hl => k_runV (As := [kI ((2 * a1) + 1), kI a3, kI (-5)]) X lk_X10_124 rfl yo_X10_narrows rfl (kR_ok (by decide) (by decide)) (ct_X10_narrows (kCx_j X) _ _ _ _ _ h) (by rfl) rfl (Nat.le_of_ble_eq_true rfl) dX10_isWithin_19 hP hS hl) (fun z2 h => ?_)
  exact k_vret X hrt hlk dX10_isWithin_22 h
set_option maxHeartbeats 4000000 in
set_option maxRecDepth 100000 in
theorem ct_X10_told {l : Launch} {D : va_G} {cA : Nat → ClassId} {ad sa : Nat → Nat} (hj : kInj NM ad) (a1 : Int) (a2 : Int) (z : Hp) (Kp : Int → Prop) (h : cal_X10_told a1 a2 z Kp) : kMet l yX10_told cX10_told 3 (some .int) 0 NM kdM D cA ad sa [.ref (ad 0), kI a1, kI a2] z (kQi NM kdM D cA ad (fun v z1 => z1 = z ∧ Kp v)) := by
  unfold cal_X10_told at h
  refine k_met (cc := cX10_told) (own := RX10) (nL := 3) rfl rfl (Nat.le_of_ble_eq_true rfl) hj kltM (fun p e s m below meth c X hrt hlk => ?_)
  refine k_sub (lv' := [(0, .ref (ad 0)), (1, kI a1), (2, kI a2)]) [0, 1, 2] rfl ?_
  refine k_aload_n X dX10_told_0 0 rfl ?_
  refine k_getR (t := 1) X fk_X10_11 (by rfl) (by decide) rfl dX10_told_1 ?_
  refine k_sipush X dX10_told_4 (by decide +kernel) ?_
  refine k_bipush X dX10_told_7 (by decide +kernel) ?_
  refine k_iload_n X dX10_told_9 1 rfl ?_
  refine k_imul X dX10_told_10 ?_
  refine k_iadd X dX10_told_11 ?_
  refine k_iload_n X dX10_told_12 2 rfl ?_
  refine k_iadd X dX10_told_13 ?_
  refine k_iald X kzM_1 (Nat.le_of_ble_eq_true rfl) dX10_told_14 h (fun h => ?_)
  exact k_iret X hrt hlk dX10_told_15 ⟨rfl, h⟩
