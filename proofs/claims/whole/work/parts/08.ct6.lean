set_option maxHeartbeats 4000000 in
set_option maxRecDepth 100000 in
theorem ct_X8_sortPeople {l : Launch} {D : va_G} {cA : Nat → ClassId} {ad sa : Nat → Nat} (hj : kInj NC ad) (t : Nat) (ht : kdC t = (0, 7, 7)) (z : Hp) (Kp : Hp → Prop) (h : cal_X8_sortPeople t z Kp) : kMet l yX8_sortPeople cX8_sortPeople 5 none 1 NC kdC D cA ad sa [.ref (ad t)] z (kQv NC kdC D cA ad Kp) := by
  unfold cal_X8_sortPeople at h
  refine k_met (cc := cX8_sortPeople) (own := RX8) (nL := 5) rfl rfl (Nat.le_of_ble_eq_true rfl) hj kltC (fun p e s m below meth c X hrt hlk => ?_)
  refine k_sub (lv' := [(0, .ref (ad t))]) [0] rfl ?_
  refine k_iconst X dX8_sortPeople_0 ?_
  refine k_istore_n X dX8_sortPeople_1 h (fun v1 => [(1, kI v1), (0, .ref (ad t))]) (by decide) (fun _ => rfl) (fun v1 h => ?_)
  refine k_iconst X dX8_sortPeople_2 ?_
  refine k_istore_n X dX8_sortPeople_3 h (fun v2 => [(2, kI v2), (1, kI v1), (0, .ref (ad t))]) (by decide) (fun _ => rfl) (fun v2 h => ?_)
  refine k_sub (lv' := [(0, .ref (ad t)), (1, kI v1), (2, kI v2)]) [2, 1, 0] rfl ?_
  refine h (fun v4 v5 z6 => kAt p l e (kR 1) s m ([.ref (ad t)] : List Value).toArray below meth c (MQ below (kQv NC kdC D cA ad Kp) ([.ref (ad t)] : List Value).toArray s 0 0 (kA NC ad)) 5 NC kdC D cA ad 4 [(0, .ref (ad t)), (1, kI v4), (2, kI v5)] [] z6) (fun v4 v5 z6 h => ?_)
  refine k_iload_n X dX8_sortPeople_4 2 rfl ?_
  refine k_bipush X dX8_sortPeople_5 (by decide +kernel) ?_
  refine k_icmp_ge (tgt := 94) X dX8_sortPeople_7 (by decide) ⟨h.1, ⟨by decide, by decide⟩, h.2⟩ (fun h => ?_) (fun h => ?_)
  · exact k_vret X hrt hlk dX8_sortPeople_94 h
  · refine k_aload_n X dX8_sortPeople_10 0 rfl ?_
    refine k_getR (t := t + 2) X fk_X8_18 ht (by decide) rfl dX8_sortPeople_11 ?_
    refine k_getI X fk_X8_76 (kc_7_2 ht) rfl dX8_sortPeople_14 ?_
    refine k_iload_n X dX8_sortPeople_17 2 rfl ?_
    refine k_afterP (st := []) (fun H locs ls hP hS hl => k_runS (As := [kI (z6 (t + 2) 1), kI v5]) X lk_X8_79 yo_X1_has rfl (kR_ok (by decide) (by decide)) (ct_X1_has (kCx_j X) _ _ _ _ h) (Nat.le_of_ble_eq_true rfl) dX8_sortPeople_18 hP hS hl) (fun v7 h => ?_)
    refine jn_use (fun J9 => ∀ (v8 : Int) (z10 : Hp), J9 v8 z10 → kAt p l e (kR 1) s m ([.ref (ad t)] : List Value).toArray below meth c (MQ below (kQv NC kdC D cA ad Kp) ([.ref (ad t)] : List Value).toArray s 0 0 (kA NC ad)) 5 NC kdC D cA ad 88 [(0, .ref (ad t)), (1, kI v8), (2, kI v5)] [] z10) h ?_ (fun J9 hJ9 h => ?_)
    · intro v8 z10 h
      refine k_iinc X dX8_sortPeople_88 2 rfl h (fun v11 => [(2, kI v11), (0, .ref (ad t)), (1, kI v8)]) (by decide) (fun _ => rfl) (fun v11 h => ?_)
      refine k_goto (tgt := 4) X dX8_sortPeople_91 (by decide) ?_
      exact k_sub [1, 2, 0] rfl h
    · refine k_if_eq (tgt := 88) X dX8_sortPeople_21 (by decide) h (fun h => ?_) (fun h => ?_)
      · exact k_sub [0, 1, 2] rfl (hJ9 _ _ h)
      · refine k_iload_n X dX8_sortPeople_24 1 rfl ?_
        refine k_istore_n X dX8_sortPeople_25 h (fun v12 => [(3, kI v12), (0, .ref (ad t)), (1, kI v4), (2, kI v5)]) (by decide) (fun _ => rfl) (fun v12 h => ?_)
        refine k_iload_n X dX8_sortPeople_26 2 rfl ?_
        refine k_istore X dX8_sortPeople_27 h (fun v13 => [(4, kI v13), (3, kI v12), (0, .ref (ad t)), (1, kI v4), (2, kI v5)]) (by decide) (fun _ => rfl) (fun v13 h => ?_)
        refine k_sub (lv' := [(0, .ref (ad t)), (1, kI v4), (2, kI v5), (3, kI v12), (4, kI v13)]) [2, 3, 4, 1, 0] rfl ?_
        refine h (fun v15 v16 z17 => kAt p l e (kR 1) s m ([.ref (ad t)] : List Value).toArray below meth c (MQ below (kQv NC kdC D cA ad Kp) ([.ref (ad t)] : List Value).toArray s 0 0 (kA NC ad)) 5 NC kdC D cA ad 29 [(0, .ref (ad t)), (1, kI v4), (2, kI v5), (3, kI v15), (4, kI v16)] [] z17) (fun v15 v16 z17 h => ?_)
        refine k_iload X dX8_sortPeople_29 4 rfl ?_
        refine jn_use (fun J19 => ∀ (v18 : Int) (z20 : Hp), J19 v18 z20 → kAt p l e (kR 1) s m ([.ref (ad t)] : List Value).toArray below meth c (MQ below (kQv NC kdC D cA ad Kp) ([.ref (ad t)] : List Value).toArray s 0 0 (kA NC ad)) 5 NC kdC D cA ad 78 [(0, .ref (ad t)), (1, kI v4), (2, kI v5), (3, kI v18)] [] z20) h ?_ (fun J19 hJ19 h => ?_)
        · intro v18 z20 h
          refine k_aload_n X dX8_sortPeople_78 0 rfl ?_
          refine k_getR (t := t + 22) X fk_X8_29 ht (by decide) rfl dX8_sortPeople_79 ?_
          refine k_iload_n X dX8_sortPeople_82 3 rfl ?_
          refine k_iload_n X dX8_sortPeople_83 2 rfl ?_
          refine k_iast X (kc_7_6 ht) (Nat.le_of_ble_eq_true rfl) dX8_sortPeople_84 h (fun h => k_nameH h (fun z21 h => ?_))
          refine k_iinc X dX8_sortPeople_85 1 rfl h (fun v22 => [(1, kI v22), (0, .ref (ad t)), (2, kI v5), (3, kI v18)]) (by decide) (fun _ => rfl) (fun v22 h => ?_)
          exact k_sub [1, 0, 2] rfl (hJ9 _ _ h)
        · refine k_if_le (tgt := 78) X dX8_sortPeople_31 (by decide) h (fun h => ?_) (fun h => ?_)
          · exact k_sub [0, 1, 2, 3] rfl (hJ19 _ _ h)
          · refine k_aload_n X dX8_sortPeople_34 0 rfl ?_
            refine k_iload_n X dX8_sortPeople_35 2 rfl ?_
            refine k_aload_n X dX8_sortPeople_36 0 rfl ?_
            refine k_getR (t := t + 22) X fk_X8_29 ht (by decide) rfl dX8_sortPeople_37 ?_
            refine k_iload X dX8_sortPeople_40 4 rfl ?_
            refine k_iconst X dX8_sortPeople_42 ?_
            refine k_isub X dX8_sortPeople_43 ?_
            refine k_iald X (kc_7_6 ht) (Nat.le_of_ble_eq_true rfl) dX8_sortPeople_44 h (fun h => ?_)
            refine k_afterP (st := []) (fun H locs ls hP hS hl => k_runV (As := [kI v5, kI (z17 (t + 22) (v16 - 1).toNat)]) X lk_X8_98 rfl yo_X8_isBornAhead rfl (kR_ok (by decide) (by decide)) (ct_X8_isBornAhead (kCx_j X) t ht _ _ _ _ h) ht rfl (Nat.le_of_ble_eq_true rfl) dX8_sortPeople_45 hP hS hl) (fun v23 h => ?_)
            refine k_if_eq (tgt := 78) X dX8_sortPeople_48 (by decide) h (fun h => ?_) (fun h => ?_)
            · exact k_sub [0, 1, 2, 3] rfl (hJ19 _ _ h)
            · refine k_aload_n X dX8_sortPeople_51 0 rfl ?_
              refine k_getR (t := t + 22) X fk_X8_29 ht (by decide) rfl dX8_sortPeople_52 ?_
              refine k_iload X dX8_sortPeople_55 4 rfl ?_
              refine k_aload_n X dX8_sortPeople_57 0 rfl ?_
              refine k_getR (t := t + 22) X fk_X8_29 ht (by decide) rfl dX8_sortPeople_58 ?_
              refine k_iload X dX8_sortPeople_61 4 rfl ?_
              refine k_iconst X dX8_sortPeople_63 ?_
              refine k_isub X dX8_sortPeople_64 ?_
              refine k_iald X (kc_7_6 ht) (Nat.le_of_ble_eq_true rfl) dX8_sortPeople_65 h (fun h => ?_)
              refine k_iast X (kc_7_6 ht) (Nat.le_of_ble_eq_true rfl) dX8_sortPeople_66 h (fun h => k_nameH h (fun z24 h => ?_))
              refine k_iload X dX8_sortPeople_67 4 rfl ?_
              refine k_iconst X dX8_sortPeople_69 ?_
              refine k_isub X dX8_sortPeople_70 ?_
              refine k_istore_n X dX8_sortPeople_71 h (fun v25 => [(3, kI v25), (0, .ref (ad t)), (1, kI v4), (2, kI v5), (4, kI v16)]) (by decide) (fun _ => rfl) (fun v25 h => ?_)
              refine k_iinc X dX8_sortPeople_72 4 rfl h (fun v26 => [(4, kI v26), (3, kI v25), (0, .ref (ad t)), (1, kI v4), (2, kI v5)]) (by decide) (fun _ => rfl) (fun v26 h => ?_)
              refine k_goto (tgt := 29) X dX8_sortPeople_75 (by decide) ?_
              exact k_sub [2, 3, 4, 1, 0] rfl h
set_option maxHeartbeats 4000000 in
set_option maxRecDepth 100000 in
theorem ct_X8_takeRules {l : Launch} {D : va_G} {cA : Nat → ClassId} {ad sa : Nat → Nat} (hj : kInj NC ad) (t : Nat) (ht : kdC t = (0, 7, 7)) (r1 : Nat) (hr1 : kdC r1 = (0, 0, 11)) (z : Hp) (Kp : Hp → Prop) (h : cal_X8_takeRules t r1 z Kp) : kMet l yX8_takeRules cX8_takeRules 3 none 3 NC kdC D cA ad sa [.ref (ad t), .ref (ad r1)] z (kQv NC kdC D cA ad Kp) := by
  unfold cal_X8_takeRules at h
  refine k_met (cc := cX8_takeRules) (own := RX8) (nL := 3) rfl rfl (Nat.le_of_ble_eq_true rfl) hj kltC (fun p e s m below meth c X hrt hlk => ?_)
  refine k_sub (lv' := [(0, .ref (ad t)), (1, .ref (ad r1))]) [0, 1] rfl ?_
  refine k_iconst X dX8_takeRules_0 ?_
  refine k_istore_n X dX8_takeRules_1 h (fun v1 => [(2, kI v1), (0, .ref (ad t)), (1, .ref (ad r1))]) (by decide) (fun _ => rfl) (fun v1 h => ?_)
  refine k_sub (lv' := [(0, .ref (ad t)), (1, .ref (ad r1)), (2, kI v1)]) [1, 2, 0] rfl ?_
  refine h (fun v3 z4 => kAt p l e (kR 3) s m ([.ref (ad t), .ref (ad r1)] : List Value).toArray below meth c (MQ below (kQv NC kdC D cA ad Kp) ([.ref (ad t), .ref (ad r1)] : List Value).toArray s 0 0 (kA NC ad)) 3 NC kdC D cA ad 2 [(0, .ref (ad t)), (1, .ref (ad r1)), (2, kI v3)] [] z4) (fun v3 z4 h => ?_)
  refine k_iload_n X dX8_takeRules_2 2 rfl ?_
  refine k_bipush X dX8_takeRules_3 (by decide +kernel) ?_
  refine k_icmp_ge (tgt := 36) X dX8_takeRules_5 (by decide) ⟨h.1, ⟨by decide, by decide⟩, h.2⟩ (fun h => ?_) (fun h => ?_)
  · refine k_iconst X dX8_takeRules_36 ?_
    refine k_istore_n X dX8_takeRules_37 h (fun v5 => [(2, kI v5), (0, .ref (ad t)), (1, .ref (ad r1))]) (by decide) (fun _ => rfl) (fun v5 h => ?_)
    refine k_sub (lv' := [(0, .ref (ad t)), (1, .ref (ad r1)), (2, kI v5)]) [1, 2, 0] rfl ?_
    refine h (fun v7 z8 => kAt p l e (kR 3) s m ([.ref (ad t), .ref (ad r1)] : List Value).toArray below meth c (MQ below (kQv NC kdC D cA ad Kp) ([.ref (ad t), .ref (ad r1)] : List Value).toArray s 0 0 (kA NC ad)) 3 NC kdC D cA ad 38 [(0, .ref (ad t)), (1, .ref (ad r1)), (2, kI v7)] [] z8) (fun v7 z8 h => ?_)
    refine k_iload_n X dX8_takeRules_38 2 rfl ?_
    refine k_aload_n X dX8_takeRules_39 0 rfl ?_
    refine k_getI X fk_X8_32 ht rfl dX8_takeRules_40 ?_
    refine k_icmp_ge (tgt := 70) X dX8_takeRules_43 (by decide) h (fun h => ?_) (fun h => ?_)
    · exact k_vret X hrt hlk dX8_takeRules_70 h
    · refine k_aload_n X dX8_takeRules_46 0 rfl ?_
      refine k_getR (t := t + 13) X fk_X8_25 ht (by decide) rfl dX8_takeRules_47 ?_
      refine k_aload_n X dX8_takeRules_50 1 rfl ?_
      refine k_aload_n X dX8_takeRules_51 0 rfl ?_
      refine k_getR (t := t + 2) X fk_X8_18 ht (by decide) rfl dX8_takeRules_52 ?_
      refine k_aload_n X dX8_takeRules_55 0 rfl ?_
      refine k_getR (t := t + 1) X fk_X8_9 ht (by decide) rfl dX8_takeRules_56 ?_
      refine k_iload_n X dX8_takeRules_59 2 rfl ?_
      refine k_iald X (kc_7_0 ht) (Nat.le_of_ble_eq_true rfl) dX8_takeRules_60 h (fun h => ?_)
      refine k_afterV (st := []) (fun H locs ls hP hS hl => k_runV (As := [.ref (ad r1), .ref (ad (t + 2)), kI (z8 (t + 1) v7.toNat)]) X lk_X8_87 rfl yo_X3_takeStatement rfl (kR_ok (by decide) (by decide)) (ct_X3_takeStatement (kCx_j X) (t + 13) (kc_7_3 ht) r1 hr1 (t + 2) (kc_7_2 ht) _ _ _ h) (kc_7_3 ht) rfl (Nat.le_of_ble_eq_true rfl) dX8_takeRules_61 hP hS hl) (fun z9 h => ?_)
      refine k_iinc X dX8_takeRules_64 2 rfl h (fun v10 => [(2, kI v10), (0, .ref (ad t)), (1, .ref (ad r1))]) (by decide) (fun _ => rfl) (fun v10 h => ?_)
      refine k_goto (tgt := 38) X dX8_takeRules_67 (by decide) ?_
      exact k_sub [1, 2, 0] rfl h
  · refine k_aload_n X dX8_takeRules_8 0 rfl ?_
    refine k_getR (t := t + 2) X fk_X8_18 ht (by decide) rfl dX8_takeRules_9 ?_
    refine k_getI X fk_X8_76 (kc_7_2 ht) rfl dX8_takeRules_12 ?_
    refine k_iload_n X dX8_takeRules_15 2 rfl ?_
    refine k_afterP (st := []) (fun H locs ls hP hS hl => k_runS (As := [kI (z4 (t + 2) 1), kI v3]) X lk_X8_79 yo_X1_has rfl (kR_ok (by decide) (by decide)) (ct_X1_has (kCx_j X) _ _ _ _ h) (Nat.le_of_ble_eq_true rfl) dX8_takeRules_16 hP hS hl) (fun v11 h => ?_)
    refine jn_use (fun J12 => ∀ (z13 : Hp), J12 z13 → kAt p l e (kR 3) s m ([.ref (ad t), .ref (ad r1)] : List Value).toArray below meth c (MQ below (kQv NC kdC D cA ad Kp) ([.ref (ad t), .ref (ad r1)] : List Value).toArray s 0 0 (kA NC ad)) 3 NC kdC D cA ad 30 [(0, .ref (ad t)), (1, .ref (ad r1)), (2, kI v3)] [] z13) h ?_ (fun J12 hJ12 h => ?_)
    · intro z13 h
      refine k_iinc X dX8_takeRules_30 2 rfl h (fun v14 => [(2, kI v14), (0, .ref (ad t)), (1, .ref (ad r1))]) (by decide) (fun _ => rfl) (fun v14 h => ?_)
      refine k_goto (tgt := 2) X dX8_takeRules_33 (by decide) ?_
      exact k_sub [1, 2, 0] rfl h
    · refine k_if_eq (tgt := 30) X dX8_takeRules_19 (by decide) h (fun h => ?_) (fun h => ?_)
      · exact k_sub [0, 1, 2] rfl (hJ12 _ h)
      · refine k_aload_n X dX8_takeRules_22 0 rfl ?_
        refine k_getR (t := t + 13) X fk_X8_25 ht (by decide) rfl dX8_takeRules_23 ?_
        refine k_iload_n X dX8_takeRules_26 2 rfl ?_
        refine k_afterV (st := []) (fun H locs ls hP hS hl => k_runV (As := [kI v3]) X lk_X8_83 rfl yo_X3_takeLife rfl (kR_ok (by decide) (by decide)) (ct_X3_takeLife (kCx_j X) (t + 13) (kc_7_3 ht) _ _ _ h) (kc_7_3 ht) rfl (Nat.le_of_ble_eq_true rfl) dX8_takeRules_27 hP hS hl) (fun z15 h => ?_)
        exact k_sub [0, 1, 2] rfl (hJ12 _ h)
set_option maxHeartbeats 4000000 in
set_option maxRecDepth 100000 in
theorem ct_X8_tellClashing {l : Launch} {D : va_G} {cA : Nat → ClassId} {ad sa : Nat → Nat} (hj : kInj NC ad) (t : Nat) (ht : kdC t = (0, 7, 7)) (z : Hp) (Kp : Int → Prop) (h : cal_X8_tellClashing t z Kp) : kMet l yX8_tellClashing cX8_tellClashing 1 (some .int) 1 NC kdC D cA ad sa [.ref (ad t)] z (kQi NC kdC D cA ad (fun v z1 => z1 = z ∧ Kp v)) := by
  unfold cal_X8_tellClashing at h
  refine k_met (cc := cX8_tellClashing) (own := RX8) (nL := 1) rfl rfl (Nat.le_of_ble_eq_true rfl) hj kltC (fun p e s m below meth c X hrt hlk => ?_)
  refine k_sub (lv' := [(0, .ref (ad t))]) [0] rfl ?_
  refine k_aload_n X dX8_tellClashing_0 0 rfl ?_
  refine k_getI X fk_X8_48 ht rfl dX8_tellClashing_1 ?_
  refine k_iconst X dX8_tellClashing_4 ?_
  refine k_icmp_ne (tgt := 21) X dX8_tellClashing_5 (by decide) ⟨h.1, ⟨by decide, by decide⟩, h.2⟩ (fun h => ?_) (fun h => ?_)
  · refine k_aload_n X dX8_tellClashing_21 0 rfl ?_
    refine k_getI X fk_X8_51 ht rfl dX8_tellClashing_22 ?_
    exact k_iret X hrt hlk dX8_tellClashing_25 ⟨rfl, h⟩
  · refine k_aload_n X dX8_tellClashing_8 0 rfl ?_
    refine k_getR (t := t + 13) X fk_X8_25 ht (by decide) rfl dX8_tellClashing_9 ?_
    refine k_getI X fk_X8_91 (kc_7_3 ht) rfl dX8_tellClashing_12 ?_
    refine k_afterP (st := []) (fun H locs ls hP hS hl => k_runS (As := [kI (z (t + 13) 10)]) X lk_X8_94 yo_X3_tellRange rfl (kR_ok (by decide) (by decide)) (ct_X3_tellRange (kCx_j X) _ _ _ h) (Nat.le_of_ble_eq_true rfl) dX8_tellClashing_15 hP hS hl) (fun v1 h => ?_)
    refine k_goto (tgt := 25) X dX8_tellClashing_18 (by decide) ?_
    exact k_iret X hrt hlk dX8_tellClashing_25 ⟨rfl, h⟩
set_option maxHeartbeats 4000000 in
set_option maxRecDepth 100000 in
theorem ct_X8_work {l : Launch} {D : va_G} {cA : Nat → ClassId} {ad sa : Nat → Nat} (hj : kInj NC ad) (t : Nat) (ht : kdC t = (0, 7, 7)) (r1 : Nat) (hr1 : kdC r1 = (0, 0, 11)) (a2 : Int) (a3 : Int) (a4 : Int) (z : Hp) (Kp : Hp → Prop) (h : cal_X8_work t r1 a2 a3 a4 z Kp) : kMet l yX8_work cX8_work 6 none 4 NC kdC D cA ad sa [.ref (ad t), .ref (ad r1), kI a2, kI a3, kI a4] z (kQv NC kdC D cA ad Kp) := by
  unfold cal_X8_work at h
  refine k_met (cc := cX8_work) (own := RX8) (nL := 6) rfl rfl (Nat.le_of_ble_eq_true rfl) hj kltC (fun p e s m below meth c X hrt hlk => ?_)
  refine k_sub (lv' := [(0, .ref (ad t)), (1, .ref (ad r1)), (2, kI a2), (3, kI a3), (4, kI a4)]) [0, 1, 2, 3, 4] rfl ?_
  refine k_aload_n X dX8_work_0 0 rfl ?_
  refine k_iconst X dX8_work_1 ?_
  refine k_putI X fp_X8_32 ht rfl dX8_work_2 (k_nameH h (fun z1 h => ?_))
  refine k_iconst X dX8_work_5 ?_
  refine k_istore X dX8_work_6 h (fun v2 => [(5, kI v2), (0, .ref (ad t)), (1, .ref (ad r1)), (2, kI a2), (3, kI a3), (4, kI a4)]) (by decide) (fun _ => rfl) (fun v2 h => ?_)
  refine k_sub (lv' := [(0, .ref (ad t)), (1, .ref (ad r1)), (2, kI a2), (3, kI a3), (4, kI a4), (5, kI v2)]) [1, 2, 3, 4, 5, 0] rfl ?_
  refine h (fun v4 z5 => kAt p l e (kR 4) s m ([.ref (ad t), .ref (ad r1), kI a2, kI a3, kI a4] : List Value).toArray below meth c (MQ below (kQv NC kdC D cA ad Kp) ([.ref (ad t), .ref (ad r1), kI a2, kI a3, kI a4] : List Value).toArray s 0 0 (kA NC ad)) 6 NC kdC D cA ad 8 [(0, .ref (ad t)), (1, .ref (ad r1)), (2, kI a2), (3, kI a3), (4, kI a4), (5, kI v4)] [] z5) (fun v4 z5 h => ?_)
  refine k_iload X dX8_work_8 5 rfl ?_
  refine k_iload_n X dX8_work_10 2 rfl ?_
  refine jn_use (fun J6 => ∀ (z7 : Hp), J6 z7 → kAt p l e (kR 4) s m ([.ref (ad t), .ref (ad r1), kI a2, kI a3, kI a4] : List Value).toArray below meth c (MQ below (kQv NC kdC D cA ad Kp) ([.ref (ad t), .ref (ad r1), kI a2, kI a3, kI a4] : List Value).toArray s 0 0 (kA NC ad)) 6 NC kdC D cA ad 65 [(0, .ref (ad t)), (1, .ref (ad r1)), (4, kI a4)] [] z7) h ?_ (fun J6 hJ6 h => ?_)
  · intro z7 h
    refine k_aload_n X dX8_work_65 0 rfl ?_
    refine k_getR (t := t + 2) X fk_X8_18 ht (by decide) rfl dX8_work_66 ?_
    refine k_aload_n X dX8_work_69 1 rfl ?_
    refine k_aload_n X dX8_work_70 0 rfl ?_
    refine k_getR (t := t + 1) X fk_X8_9 ht (by decide) rfl dX8_work_71 ?_
    refine k_aload_n X dX8_work_74 0 rfl ?_
    refine k_getI X fk_X8_32 ht rfl dX8_work_75 ?_
    refine k_afterV (st := []) (fun H locs ls hP hS hl => k_runV (As := [.ref (ad r1), .ref (ad (t + 1)), kI (z7 t 1)]) X lk_X8_41 rfl yo_X1_gather rfl (kR_ok (by decide) (by decide)) (ct_X1_gather (kCx_j X) (t + 2) (kc_7_2 ht) r1 hr1 (t + 1) (kc_7_0 ht) _ _ _ h) (kc_7_2 ht) rfl (Nat.le_of_ble_eq_true rfl) dX8_work_78 hP hS hl) (fun z8 h => ?_)
    refine k_aload_n X dX8_work_81 0 rfl ?_
    refine k_getR (t := t + 13) X fk_X8_25 ht (by decide) rfl dX8_work_82 ?_
    refine k_afterV (st := []) (fun H locs ls hP hS hl => k_runV (As := []) X lk_X8_45 rfl yo_X3_wipe rfl (kR_ok (by decide) (by decide)) (ct_X3_wipe (kCx_j X) (t + 13) (kc_7_3 ht) _ _ h) (kc_7_3 ht) rfl (Nat.le_of_ble_eq_true rfl) dX8_work_85 hP hS hl) (fun z9 h => ?_)
    refine k_aload_n X dX8_work_88 0 rfl ?_
    refine k_iconst X dX8_work_89 ?_
    refine k_putI X fp_X8_48 ht rfl dX8_work_90 (k_nameH h (fun z10 h => ?_))
    refine k_aload_n X dX8_work_93 0 rfl ?_
    refine k_bipush X dX8_work_94 (by decide +kernel) ?_
    refine k_putI X fp_X8_51 ht rfl dX8_work_96 (k_nameH h (fun z11 h => ?_))
    refine k_aload_n X dX8_work_99 0 rfl ?_
    refine k_iconst X dX8_work_100 ?_
    refine k_aload_n X dX8_work_101 0 rfl ?_
    refine k_getR (t := t + 2) X fk_X8_18 ht (by decide) rfl dX8_work_102 ?_
    refine k_afterP (st := [kI 1, .ref (ad t)]) (fun H locs ls hP hS hl => k_runV (As := []) X lk_X8_54 rfl yo_X1_leastOfBothSexes rfl (kR_ok (by decide) (by decide)) (ct_X1_leastOfBothSexes (kCx_j X) (t + 2) (kc_7_2 ht) _ _ h) (kc_7_2 ht) rfl (Nat.le_of_ble_eq_true rfl) dX8_work_105 hP hS hl) (fun v12 h => ?_)
    refine k_afterV (st := []) (fun H locs ls hP hS hl => k_runV (As := [kI 1, kI v12]) X lk_X8_58 rfl yo_X8_note rfl (kR_ok (by decide) (by decide)) (ct_X8_note (kCx_j X) t ht _ _ _ _ h) ht rfl (Nat.le_of_ble_eq_true rfl) dX8_work_108 hP hS hl) (fun z13 h => ?_)
    refine k_aload_n X dX8_work_111 0 rfl ?_
    refine k_iconst X dX8_work_112 ?_
    refine k_aload_n X dX8_work_113 0 rfl ?_
    refine k_getR (t := t + 2) X fk_X8_18 ht (by decide) rfl dX8_work_114 ?_
    refine k_afterP (st := [kI 2, .ref (ad t)]) (fun H locs ls hP hS hl => k_runV (As := []) X lk_X8_62 rfl yo_X1_leastOfUnlikeParents rfl (kR_ok (by decide) (by decide)) (ct_X1_leastOfUnlikeParents (kCx_j X) (t + 2) (kc_7_2 ht) _ _ h) (kc_7_2 ht) rfl (Nat.le_of_ble_eq_true rfl) dX8_work_117 hP hS hl) (fun v14 h => ?_)
    refine k_afterV (st := []) (fun H locs ls hP hS hl => k_runV (As := [kI 2, kI v14]) X lk_X8_58 rfl yo_X8_note rfl (kR_ok (by decide) (by decide)) (ct_X8_note (kCx_j X) t ht _ _ _ _ h) ht rfl (Nat.le_of_ble_eq_true rfl) dX8_work_120 hP hS hl) (fun z15 h => ?_)
    refine k_aload_n X dX8_work_123 0 rfl ?_
    refine k_iconst X dX8_work_124 ?_
    refine k_aload_n X dX8_work_125 0 rfl ?_
    refine k_getR (t := t + 2) X fk_X8_18 ht (by decide) rfl dX8_work_126 ?_
    refine k_afterP (st := [kI 3, .ref (ad t)]) (fun H locs ls hP hS hl => k_runV (As := []) X lk_X8_65 rfl yo_X1_leastRing rfl (kR_ok (by decide) (by decide)) (ct_X1_leastRing (kCx_j X) (t + 2) (kc_7_2 ht) _ _ h) (kc_7_2 ht) rfl (Nat.le_of_ble_eq_true rfl) dX8_work_129 hP hS hl) (fun v16 h => ?_)
    refine k_afterV (st := []) (fun H locs ls hP hS hl => k_runV (As := [kI 3, kI v16]) X lk_X8_58 rfl yo_X8_note rfl (kR_ok (by decide) (by decide)) (ct_X8_note (kCx_j X) t ht _ _ _ _ h) ht rfl (Nat.le_of_ble_eq_true rfl) dX8_work_132 hP hS hl) (fun z17 h => ?_)
    refine k_aload_n X dX8_work_135 0 rfl ?_
    refine k_getI X fk_X8_48 ht rfl dX8_work_136 ?_
    refine k_if_ne (tgt := 168) X dX8_work_139 (by decide) h (fun h => ?_) (fun h => ?_)
    · exact k_vret X hrt hlk dX8_work_168 h
    · refine k_aload_n X dX8_work_142 0 rfl ?_
      refine k_aload_n X dX8_work_143 1 rfl ?_
      refine k_afterV (st := []) (fun H locs ls hP hS hl => k_runV (As := [.ref (ad r1)]) X lk_X8_68 rfl yo_X8_takeRules rfl (kR_ok (by decide) (by decide)) (ct_X8_takeRules (kCx_j X) t ht r1 hr1 _ _ h) ht rfl (Nat.le_of_ble_eq_true rfl) dX8_work_144 hP hS hl) (fun z18 h => ?_)
      refine k_aload_n X dX8_work_147 0 rfl ?_
      refine k_aload_n X dX8_work_148 0 rfl ?_
      refine k_getR (t := t + 13) X fk_X8_25 ht (by decide) rfl dX8_work_149 ?_
      refine k_iload X dX8_work_152 2 rfl ?_
      refine k_afterI (st := [.ref (ad t)]) (fun H locs ls hP hS hl => k_runV (As := [kI a4]) X lk_X8_72 rfl yo_X3_narrow rfl (kR_ok (by decide) (by decide)) (ct_X3_narrow (kCx_j X) (t + 13) (kc_7_3 ht) _ _ _ h) (kc_7_3 ht) rfl (Nat.le_of_ble_eq_true rfl) dX8_work_154 hP hS hl) (fun v20 z19 h => ?_)
      refine k_if_eq (tgt := 164) X dX8_work_157 (by decide) h (fun h => ?_) (fun h => ?_)
      · refine k_iconst X dX8_work_164 ?_
        refine k_putI X fp_X8_48 ht rfl dX8_work_165 (k_nameH h (fun z21 h => ?_))
        exact k_vret X hrt hlk dX8_work_168 h
      · refine k_iconst X dX8_work_160 ?_
        refine k_goto (tgt := 165) X dX8_work_161 (by decide) ?_
        refine k_putI X fp_X8_48 ht rfl dX8_work_165 (k_nameH h (fun z22 h => ?_))
        exact k_vret X hrt hlk dX8_work_168 h
  · refine k_icmp_ge (tgt := 65) X dX8_work_11 (by decide) h (fun h => ?_) (fun h => ?_)
    · exact k_sub [0, 1, 4] rfl (hJ6 _ h)
    · refine k_iload X dX8_work_14 5 rfl ?_
      refine k_bipush X dX8_work_16 (by decide +kernel) ?_
      refine k_icmp_gt (tgt := 65) X dX8_work_18 (by decide) ⟨h.1, ⟨by decide, by decide⟩, h.2⟩ (fun h => ?_) (fun h => ?_)
      · exact k_sub [0, 1, 4] rfl (hJ6 _ h)
      · refine k_iload X dX8_work_21 5 rfl ?_
        refine k_iload_n X dX8_work_23 3 rfl ?_
        refine jn_use (fun J23 => ∀ (z24 : Hp), J23 z24 → kAt p l e (kR 4) s m ([.ref (ad t), .ref (ad r1), kI a2, kI a3, kI a4] : List Value).toArray below meth c (MQ below (kQv NC kdC D cA ad Kp) ([.ref (ad t), .ref (ad r1), kI a2, kI a3, kI a4] : List Value).toArray s 0 0 (kA NC ad)) 6 NC kdC D cA ad 59 [(0, .ref (ad t)), (1, .ref (ad r1)), (2, kI a2), (3, kI a3), (4, kI a4), (5, kI v4)] [] z24) h ?_ (fun J23 hJ23 h => ?_)
        · intro z24 h
          refine k_iinc X dX8_work_59 5 rfl h (fun v25 => [(5, kI v25), (0, .ref (ad t)), (1, .ref (ad r1)), (2, kI a2), (3, kI a3), (4, kI a4)]) (by decide) (fun _ => rfl) (fun v25 h => ?_)
          refine k_goto (tgt := 8) X dX8_work_62 (by decide) ?_
          exact k_sub [1, 2, 3, 4, 5, 0] rfl h
        · refine k_icmp_eq (tgt := 59) X dX8_work_24 (by decide) h (fun h => ?_) (fun h => ?_)
          · exact k_sub [0, 1, 2, 3, 4, 5] rfl (hJ23 _ h)
          · refine k_aload_n X dX8_work_27 1 rfl ?_
            refine k_getR (t := r1 + 39) X fk_X8_36 hr1 (by decide) rfl dX8_work_28 ?_
            refine k_iload X dX8_work_31 5 rfl ?_
            refine k_iald X (kc_0_10 hr1) (Nat.le_of_ble_eq_true rfl) dX8_work_33 h (fun h => ?_)
            refine k_iconst X dX8_work_34 ?_
            refine k_icmp_ne (tgt := 59) X dX8_work_35 (by decide) ⟨h.1, ⟨by decide, by decide⟩, h.2⟩ (fun h => ?_) (fun h => ?_)
            · exact k_sub [0, 1, 2, 3, 4, 5] rfl (hJ23 _ h)
            · refine k_aload_n X dX8_work_38 0 rfl ?_
              refine k_getR (t := t + 1) X fk_X8_9 ht (by decide) rfl dX8_work_39 ?_
              refine k_aload_n X dX8_work_42 0 rfl ?_
              refine k_getI X fk_X8_32 ht rfl dX8_work_43 ?_
              refine k_iload X dX8_work_46 5 rfl ?_
              refine k_iast X (kc_7_0 ht) (Nat.le_of_ble_eq_true rfl) dX8_work_48 h (fun h => k_nameH h (fun z26 h => ?_))
              refine k_aload_n X dX8_work_49 0 rfl ?_
              refine k_dup X dX8_work_50 rfl ?_
              refine k_getI X fk_X8_32 ht rfl dX8_work_51 ?_
              refine k_iconst X dX8_work_54 ?_
              refine k_iadd X dX8_work_55 ?_
              refine k_putI X fp_X8_32 ht rfl dX8_work_56 (k_nameH h (fun z27 h => ?_))
              exact k_sub [0, 1, 2, 3, 4, 5] rfl (hJ23 _ h)
set_option maxHeartbeats 4000000 in
set_option maxRecDepth 100000 in
theorem ct_X9_arePersons {l : Launch} {D : va_G} {cA : Nat → ClassId} {ad sa : Nat → Nat} (hj : kInj NC ad) (a1 : Int) (a2 : Int) (z : Hp) (Kp : Int → Prop) (h : cal_X9_arePersons a1 a2 z Kp) : kMet l yX9_arePersons cX9_arePersons 3 (some .boolean) 1 NC kdC D cA ad sa [.ref (ad 0), kI a1, kI a2] z (kQi NC kdC D cA ad (fun v z1 => z1 = z ∧ Kp v)) := by
  unfold cal_X9_arePersons at h
  refine k_met (cc := cX9_arePersons) (own := RX9) (nL := 3) rfl rfl (Nat.le_of_ble_eq_true rfl) hj kltC (fun p e s m below meth c X hrt hlk => ?_)
  refine k_sub (lv' := [(0, .ref (ad 0)), (1, kI a1), (2, kI a2)]) [0, 1, 2] rfl ?_
  refine k_aload_n X dX9_arePersons_0 0 rfl ?_
  refine k_getR (t := 1) X fk_X9_14 (by rfl) (by decide) rfl dX9_arePersons_1 ?_
  refine k_iload_n X dX9_arePersons_4 1 rfl ?_
  refine k_afterP (st := []) (fun H locs ls hP hS hl => k_runV (As := [kI a1]) X lk_X9_100 rfl yo_X0_isPerson rfl (kR_ok (by decide) (by decide)) (ct_X0_isPerson (kCx_j X) 1 kzC_1 _ _ _ h) kzC_1 rfl (Nat.le_of_ble_eq_true rfl) dX9_arePersons_5 hP hS hl) (fun v1 h => ?_)
  refine k_if_eq (tgt := 26) X dX9_arePersons_8 (by decide) h (fun h => ?_) (fun h => ?_)
  · refine k_iconst X dX9_arePersons_26 ?_
    exact k_zret X hrt hlk dX9_arePersons_27 ⟨Or.inl rfl, ⟨rfl, h⟩⟩
  · refine k_aload_n X dX9_arePersons_11 0 rfl ?_
    refine k_getR (t := 1) X fk_X9_14 (by rfl) (by decide) rfl dX9_arePersons_12 ?_
    refine k_iload_n X dX9_arePersons_15 2 rfl ?_
    refine k_afterP (st := []) (fun H locs ls hP hS hl => k_runV (As := [kI a2]) X lk_X9_100 rfl yo_X0_isPerson rfl (kR_ok (by decide) (by decide)) (ct_X0_isPerson (kCx_j X) 1 kzC_1 _ _ _ h) kzC_1 rfl (Nat.le_of_ble_eq_true rfl) dX9_arePersons_16 hP hS hl) (fun v2 h => ?_)
    refine k_if_eq (tgt := 26) X dX9_arePersons_19 (by decide) h (fun h => ?_) (fun h => ?_)
    · refine k_iconst X dX9_arePersons_26 ?_
      exact k_zret X hrt hlk dX9_arePersons_27 ⟨Or.inl rfl, ⟨rfl, h⟩⟩
    · refine k_iconst X dX9_arePersons_22 ?_
      refine k_goto (tgt := 27) X dX9_arePersons_23 (by decide) ?_
      exact k_zret X hrt hlk dX9_arePersons_27 ⟨Or.inr rfl, ⟨rfl, h⟩⟩
set_option maxHeartbeats 4000000 in
set_option maxRecDepth 100000 in
theorem ct_X9_personEnd {l : Launch} {D : va_G} {cA : Nat → ClassId} {ad sa : Nat → Nat} (hj : kInj NC ad) (r1 : Nat) (hr1 : kdC r1 = (0, 7, 7)) (a2 : Int) (a3 : Int) (a4 : Int) (z : Hp) (Kp : Int → Prop) (h : cal_X9_personEnd r1 a2 a3 a4 z Kp) : kMet l yX9_personEnd cX9_personEnd 4 (some .int) 0 NC kdC D cA ad sa [.ref (ad r1), kI a2, kI a3, kI a4] z (kQi NC kdC D cA ad (fun v z1 => z1 = z ∧ Kp v)) := by
  unfold cal_X9_personEnd at h
  refine k_met (cc := cX9_personEnd) (own := RX9) (nL := 4) rfl rfl (Nat.le_of_ble_eq_true rfl) hj kltC (fun p e s m below meth c X hrt hlk => ?_)
  refine k_sub (lv' := [(0, .ref (ad r1)), (1, kI a2), (2, kI a3), (3, kI a4)]) [0, 1, 2, 3] rfl ?_
  refine k_iconst X dX9_personEnd_0 ?_
  refine k_iconst X dX9_personEnd_1 ?_
  refine k_aload_n X dX9_personEnd_2 0 rfl ?_
  refine k_getR (t := r1 + 2) X fk_X9_164 hr1 (by decide) rfl dX9_personEnd_3 ?_
  refine k_getR (t := r1 + 2 + 1) X fk_X9_168 (kc_7_2 hr1) (by decide) rfl dX9_personEnd_6 ?_
  refine k_iload_n X dX9_personEnd_9 1 rfl ?_
  refine k_iald X (kc_1_2 (kc_7_2 hr1)) (Nat.le_of_ble_eq_true rfl) dX9_personEnd_10 h (fun h => ?_)
  refine k_imul X dX9_personEnd_11 ?_
  refine k_iload_n X dX9_personEnd_12 2 rfl ?_
  refine k_iadd X dX9_personEnd_13 ?_
  refine k_imul X dX9_personEnd_14 ?_
  refine k_iload_n X dX9_personEnd_15 3 rfl ?_
  refine k_iadd X dX9_personEnd_16 ?_
  exact k_iret X hrt hlk dX9_personEnd_17 ⟨rfl, h⟩
set_option maxHeartbeats 4000000 in
set_option maxRecDepth 100000 in
theorem ct_X9_settle {l : Launch} {D : va_G} {cA : Nat → ClassId} {ad sa : Nat → Nat} (hj : kInj NC ad)  (z : Hp) (Kp : Hp → Prop) (h : cal_X9_settle  z Kp) : kMet l yX9_settle cX9_settle 1 none 5 NC kdC D cA ad sa [.ref (ad 0)] z (kQv NC kdC D cA ad Kp) := by
  unfold cal_X9_settle at h
  refine k_met (cc := cX9_settle) (own := RX9) (nL := 1) rfl rfl (Nat.le_of_ble_eq_true rfl) hj kltC (fun p e s m below meth c X hrt hlk => ?_)
  refine k_sub (lv' := [(0, .ref (ad 0))]) [0] rfl ?_
  refine k_aload_n X dX9_settle_0 0 rfl ?_
  refine k_getI X fk_X9_339 (by rfl) rfl dX9_settle_1 ?_
  refine k_if_ne (tgt := 41) X dX9_settle_4 (by decide) h (fun h => ?_) (fun h => ?_)
  · exact k_vret X hrt hlk dX9_settle_41 h
  · refine k_aload_n X dX9_settle_7 0 rfl ?_
    refine k_getR (t := 86) X fk_X9_43 (by rfl) (by decide) rfl dX9_settle_8 ?_
    refine k_aload_n X dX9_settle_11 0 rfl ?_
    refine k_getR (t := 1) X fk_X9_14 (by rfl) (by decide) rfl dX9_settle_12 ?_
    refine k_aload_n X dX9_settle_15 0 rfl ?_
    refine k_getR (t := 1) X fk_X9_14 (by rfl) (by decide) rfl dX9_settle_16 ?_
    refine k_getI X fk_X9_109 kzC_1 rfl dX9_settle_19 ?_
    refine k_iconst X dX9_settle_22 ?_
    refine k_ldcw X 1000000 mw431 dX9_settle_23 ?_
    refine k_afterV (st := []) (fun H locs ls hP hS hl => k_runV (As := [.ref (ad 1), kI (z 1 1), kI (-1), kI 1000000]) X lk_X9_346 rfl yo_X8_work rfl (kR_ok (by decide) (by decide)) (ct_X8_work (kCx_j X) 86 kzC_86 1 kzC_1 _ _ _ _ _ h) kzC_86 rfl (Nat.le_of_ble_eq_true rfl) dX9_settle_26 hP hS hl) (fun z1 h => ?_)
    refine k_aload_n X dX9_settle_29 0 rfl ?_
    refine k_getR (t := 86) X fk_X9_43 (by rfl) (by decide) rfl dX9_settle_30 ?_
    refine k_afterV (st := []) (fun H locs ls hP hS hl => k_runV (As := []) X lk_X9_350 rfl yo_X8_sortPeople rfl (kR_ok (by decide) (by decide)) (ct_X8_sortPeople (kCx_j X) 86 kzC_86 _ _ h) kzC_86 rfl (Nat.le_of_ble_eq_true rfl) dX9_settle_33 hP hS hl) (fun z2 h => ?_)
    refine k_aload_n X dX9_settle_36 0 rfl ?_
    refine k_iconst X dX9_settle_37 ?_
    refine k_putZ X fp_X9_339 (by rfl) rfl (Or.inr rfl) dX9_settle_38 (k_nameH h (fun z3 h => ?_))
    exact k_vret X hrt hlk dX9_settle_41 h
set_option maxHeartbeats 4000000 in
set_option maxRecDepth 100000 in
theorem ct_X9_ahead {l : Launch} {D : va_G} {cA : Nat → ClassId} {ad sa : Nat → Nat} (hj : kInj NC ad) (a1 : Int) (a2 : Int) (z : Hp) (Kp : Int → Hp → Prop) (h : cal_X9_ahead a1 a2 z Kp) : kMet l yX9_ahead cX9_ahead 4 (some .int) 6 NC kdC D cA ad sa [.ref (ad 0), kI a1, kI a2] z (kQi NC kdC D cA ad Kp) := by
  unfold cal_X9_ahead at h
  refine k_met (cc := cX9_ahead) (own := RX9) (nL := 4) rfl rfl (Nat.le_of_ble_eq_true rfl) hj kltC (fun p e s m below meth c X hrt hlk => ?_)
  refine k_sub (lv' := [(0, .ref (ad 0)), (1, kI a1), (2, kI a2)]) [0, 1, 2] rfl ?_
  refine k_aload_n X dX9_ahead_0 0 rfl ?_
  refine k_iload_n X dX9_ahead_1 1 rfl ?_
  refine k_iload_n X dX9_ahead_2 2 rfl ?_
  refine k_afterP (st := []) (fun H locs ls hP hS hl => k_runV (As := [kI a1, kI a2]) X lk_X9_220 rfl yo_X9_arePersons rfl (kR_ok (by decide) (by decide)) (ct_X9_arePersons (kCx_j X) _ _ _ _ h) (by rfl) rfl (Nat.le_of_ble_eq_true rfl) dX9_ahead_3 hP hS hl) (fun v1 h => ?_)
  refine k_if_ne (tgt := 11) X dX9_ahead_6 (by decide) h (fun h => ?_) (fun h => ?_)
  · refine k_aload_n X dX9_ahead_11 0 rfl ?_
    refine k_afterV (st := []) (fun H locs ls hP hS hl => k_runV (As := []) X lk_X9_161 rfl yo_X9_settle rfl (kR_ok (by decide) (by decide)) (ct_X9_settle (kCx_j X)  _ _ h) (by rfl) rfl (Nat.le_of_ble_eq_true rfl) dX9_ahead_12 hP hS hl) (fun z2 h => ?_)
    refine k_aload_n X dX9_ahead_15 0 rfl ?_
    refine k_getR (t := 86) X fk_X9_43 (by rfl) (by decide) rfl dX9_ahead_16 ?_
    refine k_getR (t := 88) X fk_X9_164 kzC_86 (by decide) rfl dX9_ahead_19 ?_
    refine k_getR (t := 89) X fk_X9_168 kzC_88 (by decide) rfl dX9_ahead_22 ?_
    refine k_iload_n X dX9_ahead_25 1 rfl ?_
    refine k_iald X kzC_89 (Nat.le_of_ble_eq_true rfl) dX9_ahead_26 h (fun h => ?_)
    refine k_aload_n X dX9_ahead_27 0 rfl ?_
    refine k_getR (t := 86) X fk_X9_43 (by rfl) (by decide) rfl dX9_ahead_28 ?_
    refine k_getR (t := 88) X fk_X9_164 kzC_86 (by decide) rfl dX9_ahead_31 ?_
    refine k_getR (t := 89) X fk_X9_168 kzC_88 (by decide) rfl dX9_ahead_34 ?_
    refine k_iload_n X dX9_ahead_37 2 rfl ?_
    refine k_iald X kzC_89 (Nat.le_of_ble_eq_true rfl) dX9_ahead_38 h (fun h => ?_)
    refine k_icmp_ne (tgt := 44) X dX9_ahead_39 (by decide) h (fun h => ?_) (fun h => ?_)
    · refine k_aload_n X dX9_ahead_44 0 rfl ?_
      refine k_getR (t := 86) X fk_X9_43 (by rfl) (by decide) rfl dX9_ahead_45 ?_
      refine k_getR (t := 99) X fk_X9_181 kzC_86 (by decide) rfl dX9_ahead_48 ?_
      refine k_getR (t := 100) X fk_X9_185 kzC_99 (by decide) rfl dX9_ahead_51 ?_
      refine k_astore_n (lv' := [(3, .ref (ad 100)), (0, .ref (ad 0)), (1, kI a1), (2, kI a2)]) X dX9_ahead_54 (by decide) rfl ?_
      refine k_aload_n X dX9_ahead_55 0 rfl ?_
      refine k_aload_n X dX9_ahead_56 1 rfl ?_
      refine k_getR (t := 86) X fk_X9_43 (by rfl) (by decide) rfl dX9_ahead_57 ?_
      refine k_iload_n X dX9_ahead_60 2 rfl ?_
      refine k_iconst X dX9_ahead_61 ?_
      refine k_iconst X dX9_ahead_62 ?_
      refine k_afterP (st := [.ref (ad 100)]) (fun H locs ls hP hS hl => k_runS (As := [.ref (ad 86), kI a1, kI 0, kI 1]) X lk_X9_190 yo_X9_personEnd rfl (kR_ok (by decide) (by decide)) (ct_X9_personEnd (kCx_j X) 86 kzC_86 _ _ _ _ _ h) (Nat.le_of_ble_eq_true rfl) dX9_ahead_63 hP hS hl) (fun v3 h => ?_)
      refine k_iald X kzC_100 (Nat.le_of_ble_eq_true rfl) dX9_ahead_66 h (fun h => ?_)
      refine k_aload_n X dX9_ahead_67 0 rfl ?_
      refine k_aload_n X dX9_ahead_68 1 rfl ?_
      refine k_getR (t := 86) X fk_X9_43 (by rfl) (by decide) rfl dX9_ahead_69 ?_
      refine k_iload_n X dX9_ahead_72 3 rfl ?_
      refine k_iconst X dX9_ahead_73 ?_
      refine k_iconst X dX9_ahead_74 ?_
      refine k_afterP (st := [.ref (ad 100), kI (z2 100 v3.toNat)]) (fun H locs ls hP hS hl => k_runS (As := [.ref (ad 86), kI a2, kI 0, kI 0]) X lk_X9_190 yo_X9_personEnd rfl (kR_ok (by decide) (by decide)) (ct_X9_personEnd (kCx_j X) 86 kzC_86 _ _ _ _ _ h) (Nat.le_of_ble_eq_true rfl) dX9_ahead_75 hP hS hl) (fun v4 h => ?_)
      refine k_iald X kzC_100 (Nat.le_of_ble_eq_true rfl) dX9_ahead_78 h (fun h => ?_)
      refine k_icmp_ge (tgt := 84) X dX9_ahead_79 (by decide) h (fun h => ?_) (fun h => ?_)
      · refine k_aload_n X dX9_ahead_84 0 rfl ?_
        refine k_aload_n X dX9_ahead_85 1 rfl ?_
        refine k_getR (t := 86) X fk_X9_43 (by rfl) (by decide) rfl dX9_ahead_86 ?_
        refine k_iload_n X dX9_ahead_89 2 rfl ?_
        refine k_iconst X dX9_ahead_90 ?_
        refine k_iconst X dX9_ahead_91 ?_
        refine k_afterP (st := [.ref (ad 100)]) (fun H locs ls hP hS hl => k_runS (As := [.ref (ad 86), kI a1, kI 0, kI 0]) X lk_X9_190 yo_X9_personEnd rfl (kR_ok (by decide) (by decide)) (ct_X9_personEnd (kCx_j X) 86 kzC_86 _ _ _ _ _ h) (Nat.le_of_ble_eq_true rfl) dX9_ahead_92 hP hS hl) (fun v5 h => ?_)
        refine k_iald X kzC_100 (Nat.le_of_ble_eq_true rfl) dX9_ahead_95 h (fun h => ?_)
        refine k_aload_n X dX9_ahead_96 0 rfl ?_
        refine k_aload_n X dX9_ahead_97 1 rfl ?_
        refine k_getR (t := 86) X fk_X9_43 (by rfl) (by decide) rfl dX9_ahead_98 ?_
        refine k_iload_n X dX9_ahead_101 3 rfl ?_
        refine k_iconst X dX9_ahead_102 ?_
        refine k_iconst X dX9_ahead_103 ?_
        refine k_afterP (st := [.ref (ad 100), kI (z2 100 v5.toNat)]) (fun H locs ls hP hS hl => k_runS (As := [.ref (ad 86), kI a2, kI 0, kI 1]) X lk_X9_190 yo_X9_personEnd rfl (kR_ok (by decide) (by decide)) (ct_X9_personEnd (kCx_j X) 86 kzC_86 _ _ _ _ _ h) (Nat.le_of_ble_eq_true rfl) dX9_ahead_104 hP hS hl) (fun v6 h => ?_)
        refine k_iald X kzC_100 (Nat.le_of_ble_eq_true rfl) dX9_ahead_107 h (fun h => ?_)
        refine k_icmp_le (tgt := 115) X dX9_ahead_108 (by decide) h (fun h => ?_) (fun h => ?_)
        · refine k_iconst X dX9_ahead_115 ?_
          exact k_iret X hrt hlk dX9_ahead_116 h
        · refine k_iconst X dX9_ahead_111 ?_
          refine k_goto (tgt := 116) X dX9_ahead_112 (by decide) ?_
          exact k_iret X hrt hlk dX9_ahead_116 h
      · refine k_iconst X dX9_ahead_82 ?_
        exact k_iret X hrt hlk dX9_ahead_83 h
    · refine k_iconst X dX9_ahead_42 ?_
      exact k_iret X hrt hlk dX9_ahead_43 h
  · refine k_iconst X dX9_ahead_9 ?_
    exact k_iret X hrt hlk dX9_ahead_10 h
set_option maxHeartbeats 4000000 in
set_option maxRecDepth 100000 in
theorem ct_X9_ancestors {l : Launch} {D : va_G} {cA : Nat → ClassId} {ad sa : Nat → Nat} (hj : kInj NC ad) (a1 : Int) (z : Hp) (Kp : Int → Hp → Prop) (h : cal_X9_ancestors a1 z Kp) : kMet l yX9_ancestors cX9_ancestors 2 (some .long) 6 NC kdC D cA ad sa [.ref (ad 0), kI a1] z (kQl NC kdC D cA ad Kp) := by
  unfold cal_X9_ancestors at h
  refine k_met (cc := cX9_ancestors) (own := RX9) (nL := 2) rfl rfl (Nat.le_of_ble_eq_true rfl) hj kltC (fun p e s m below meth c X hrt hlk => ?_)
  refine k_sub (lv' := [(0, .ref (ad 0)), (1, kI a1)]) [0, 1] rfl ?_
  refine k_aload_n X dX9_ancestors_0 0 rfl ?_
  refine k_getR (t := 1) X fk_X9_14 (by rfl) (by decide) rfl dX9_ancestors_1 ?_
  refine k_iload_n X dX9_ancestors_4 1 rfl ?_
  refine k_afterP (st := []) (fun H locs ls hP hS hl => k_runV (As := [kI a1]) X lk_X9_100 rfl yo_X0_isPerson rfl (kR_ok (by decide) (by decide)) (ct_X0_isPerson (kCx_j X) 1 kzC_1 _ _ _ h) kzC_1 rfl (Nat.le_of_ble_eq_true rfl) dX9_ancestors_5 hP hS hl) (fun v1 h => ?_)
  refine k_if_ne (tgt := 15) X dX9_ancestors_8 (by decide) h (fun h => ?_) (fun h => ?_)
  · refine k_aload_n X dX9_ancestors_15 0 rfl ?_
    refine k_afterV (st := []) (fun H locs ls hP hS hl => k_runV (As := []) X lk_X9_161 rfl yo_X9_settle rfl (kR_ok (by decide) (by decide)) (ct_X9_settle (kCx_j X)  _ _ h) (by rfl) rfl (Nat.le_of_ble_eq_true rfl) dX9_ancestors_16 hP hS hl) (fun z2 h => ?_)
    refine k_aload_n X dX9_ancestors_19 0 rfl ?_
    refine k_getR (t := 86) X fk_X9_43 (by rfl) (by decide) rfl dX9_ancestors_20 ?_
    refine k_getR (t := 88) X fk_X9_164 kzC_86 (by decide) rfl dX9_ancestors_23 ?_
    refine k_getR (t := 95) X fk_X9_294 kzC_88 (by decide) rfl dX9_ancestors_26 ?_
    refine k_aload_n X dX9_ancestors_29 0 rfl ?_
    refine k_getR (t := 86) X fk_X9_43 (by rfl) (by decide) rfl dX9_ancestors_30 ?_
    refine k_getR (t := 88) X fk_X9_164 kzC_86 (by decide) rfl dX9_ancestors_33 ?_
    refine k_getR (t := 89) X fk_X9_168 kzC_88 (by decide) rfl dX9_ancestors_36 ?_
    refine k_iload_n X dX9_ancestors_39 1 rfl ?_
    refine k_iald X kzC_89 (Nat.le_of_ble_eq_true rfl) dX9_ancestors_40 h (fun h => ?_)
    refine k_iald X kzC_95 (Nat.le_of_ble_eq_true rfl) dX9_ancestors_41 h (fun h => ?_)
    refine k_i2l X dX9_ancestors_42 h (fun h => ?_)
    exact k_lret X hrt hlk dX9_ancestors_43 h
  · refine k_ldc2 X (-9223372036854775808) mw775 dX9_ancestors_11 ?_
    exact k_lret X hrt hlk dX9_ancestors_14 h
set_option maxHeartbeats 4000000 in
set_option maxRecDepth 100000 in
theorem ct_X9_byName {l : Launch} {D : va_G} {cA : Nat → ClassId} {ad sa : Nat → Nat} (hj : kInj NC ad) (a1 : Int) (z : Hp) (Kp : Int → Prop) (h : cal_X9_byName a1 z Kp) : kMet l yX9_byName cX9_byName 3 (some .int) 2 NC kdC D cA ad sa [.ref (ad 0), kI a1] z (kQi NC kdC D cA ad (fun v z1 => z1 = z ∧ Kp v)) := by
  unfold cal_X9_byName at h
  refine k_met (cc := cX9_byName) (own := RX9) (nL := 3) rfl rfl (Nat.le_of_ble_eq_true rfl) hj kltC (fun p e s m below meth c X hrt hlk => ?_)
  refine k_sub (lv' := [(0, .ref (ad 0)), (1, kI a1)]) [0, 1] rfl ?_
  refine k_iconst X dX9_byName_0 ?_
  refine k_istore_n X dX9_byName_1 h (fun v1 => [(2, kI v1), (0, .ref (ad 0)), (1, kI a1)]) (by decide) (fun _ => rfl) (fun v1 h => ?_)
  refine k_sub (lv' := [(0, .ref (ad 0)), (1, kI a1), (2, kI v1)]) [1, 2, 0] rfl ?_
  refine h (fun v3 => kAt p l e (kR 2) s m ([.ref (ad 0), kI a1] : List Value).toArray below meth c (MQ below (kQi NC kdC D cA ad (fun v z1 => z1 = z ∧ Kp v)) ([.ref (ad 0), kI a1] : List Value).toArray s 0 0 (kA NC ad)) 3 NC kdC D cA ad 2 [(0, .ref (ad 0)), (1, kI a1), (2, kI v3)] [] z) (fun v3 h => ?_)
  refine k_iload_n X dX9_byName_2 2 rfl ?_
  refine k_aload_n X dX9_byName_3 0 rfl ?_
  refine k_getR (t := 1) X fk_X9_14 (by rfl) (by decide) rfl dX9_byName_4 ?_
  refine k_getI X fk_X9_86 kzC_1 rfl dX9_byName_7 ?_
  refine k_icmp_ge (tgt := 33) X dX9_byName_10 (by decide) h (fun h => ?_) (fun h => ?_)
  · refine k_iconst X dX9_byName_33 ?_
    exact k_iret X hrt hlk dX9_byName_34 ⟨rfl, h⟩
  · refine k_aload_n X dX9_byName_13 0 rfl ?_
    refine k_getR (t := 1) X fk_X9_14 (by rfl) (by decide) rfl dX9_byName_14 ?_
    refine k_iload_n X dX9_byName_17 2 rfl ?_
    refine k_afterP (st := []) (fun H locs ls hP hS hl => k_runV (As := [kI v3]) X lk_X9_158 rfl yo_X0_placeByName rfl (kR_ok (by decide) (by decide)) (ct_X0_placeByName (kCx_j X) 1 kzC_1 _ _ _ h) kzC_1 rfl (Nat.le_of_ble_eq_true rfl) dX9_byName_18 hP hS hl) (fun v4 h => ?_)
    refine k_iload_n X dX9_byName_21 1 rfl ?_
    refine k_icmp_ne (tgt := 27) X dX9_byName_22 (by decide) h (fun h => ?_) (fun h => ?_)
    · refine k_iinc X dX9_byName_27 2 rfl h (fun v5 => [(2, kI v5), (0, .ref (ad 0)), (1, kI a1)]) (by decide) (fun _ => rfl) (fun v5 h => ?_)
      refine k_goto (tgt := 2) X dX9_byName_30 (by decide) ?_
      exact k_sub [1, 2, 0] rfl h
    · refine k_iload_n X dX9_byName_25 2 rfl ?_
      exact k_iret X hrt hlk dX9_byName_26 ⟨rfl, h⟩
set_option maxHeartbeats 4000000 in
set_option maxRecDepth 100000 in
theorem ct_X9_isFlag {l : Launch} {D : va_G} {cA : Nat → ClassId} {ad sa : Nat → Nat} (hj : kInj NC ad) (a1 : Int) (z : Hp) (Kp : Int → Prop) (h : cal_X9_isFlag a1 z Kp) : kMet l yX9_isFlag cX9_isFlag 1 (some .boolean) 0 NC kdC D cA ad sa [kI a1] z (kQi NC kdC D cA ad (fun v z1 => z1 = z ∧ Kp v)) := by
  unfold cal_X9_isFlag at h
  refine k_met (cc := cX9_isFlag) (own := RX9) (nL := 1) rfl rfl (Nat.le_of_ble_eq_true rfl) hj kltC (fun p e s m below meth c X hrt hlk => ?_)
  refine k_sub (lv' := [(0, kI a1)]) [0] rfl ?_
  refine k_iload_n X dX9_isFlag_0 0 rfl ?_
  refine jn_use (fun J1 => J1 → kAt p l e (kR 0) s m ([kI a1] : List Value).toArray below meth c (MQ below (kQi NC kdC D cA ad (fun v z1 => z1 = z ∧ Kp v)) ([kI a1] : List Value).toArray s 0 0 (kA NC ad)) 1 NC kdC D cA ad 9 [] [] z) h ?_ (fun J1 hJ1 h => ?_)
  · intro h
    refine k_iconst X dX9_isFlag_9 ?_
    refine k_goto (tgt := 14) X dX9_isFlag_10 (by decide) ?_
    exact k_zret X hrt hlk dX9_isFlag_14 ⟨Or.inr rfl, ⟨rfl, h⟩⟩
  · refine k_if_eq (tgt := 9) X dX9_isFlag_1 (by decide) h (fun h => ?_) (fun h => ?_)
    · exact k_sub [] rfl (hJ1 h)
    · refine k_iload_n X dX9_isFlag_4 0 rfl ?_
      refine k_iconst X dX9_isFlag_5 ?_
      refine k_icmp_ne (tgt := 13) X dX9_isFlag_6 (by decide) ⟨h.1, ⟨by decide, by decide⟩, h.2⟩ (fun h => ?_) (fun h => ?_)
      · refine k_iconst X dX9_isFlag_13 ?_
        exact k_zret X hrt hlk dX9_isFlag_14 ⟨Or.inl rfl, ⟨rfl, h⟩⟩
      · exact k_sub [] rfl (hJ1 h)
set_option maxHeartbeats 4000000 in
set_option maxRecDepth 100000 in
theorem ct_X9_clash {l : Launch} {D : va_G} {cA : Nat → ClassId} {ad sa : Nat → Nat} (hj : kInj NC ad) (a1 : Int) (z : Hp) (Kp : Int → Hp → Prop) (h : cal_X9_clash a1 z Kp) : kMet l yX9_clash cX9_clash 2 (some .int) 6 NC kdC D cA ad sa [.ref (ad 0), kI a1] z (kQi NC kdC D cA ad Kp) := by
  unfold cal_X9_clash at h
  refine k_met (cc := cX9_clash) (own := RX9) (nL := 2) rfl rfl (Nat.le_of_ble_eq_true rfl) hj kltC (fun p e s m below meth c X hrt hlk => ?_)
  refine k_sub (lv' := [(0, .ref (ad 0)), (1, kI a1)]) [0, 1] rfl ?_
  refine k_iload_n X dX9_clash_0 1 rfl ?_
  refine k_afterP (st := []) (fun H locs ls hP hS hl => k_runS (As := [kI a1]) X lk_X9_106 yo_X9_isFlag rfl (kR_ok (by decide) (by decide)) (ct_X9_isFlag (kCx_j X) _ _ _ h) (Nat.le_of_ble_eq_true rfl) dX9_clash_1 hP hS hl) (fun v1 h => ?_)
  refine k_if_ne (tgt := 9) X dX9_clash_4 (by decide) h (fun h => ?_) (fun h => ?_)
  · refine k_aload_n X dX9_clash_9 0 rfl ?_
    refine k_afterV (st := []) (fun H locs ls hP hS hl => k_runV (As := []) X lk_X9_161 rfl yo_X9_settle rfl (kR_ok (by decide) (by decide)) (ct_X9_settle (kCx_j X)  _ _ h) (by rfl) rfl (Nat.le_of_ble_eq_true rfl) dX9_clash_10 hP hS hl) (fun z2 h => ?_)
    refine k_iload_n X dX9_clash_13 1 rfl ?_
    refine k_if_ne (tgt := 27) X dX9_clash_14 (by decide) h (fun h => ?_) (fun h => ?_)
    · refine k_aload_n X dX9_clash_27 0 rfl ?_
      refine k_getR (t := 86) X fk_X9_43 (by rfl) (by decide) rfl dX9_clash_28 ?_
      refine k_afterP (st := []) (fun H locs ls hP hS hl => k_runV (As := []) X lk_X9_208 rfl yo_X8_tellClashing rfl (kR_ok (by decide) (by decide)) (ct_X8_tellClashing (kCx_j X) 86 kzC_86 _ _ h) kzC_86 rfl (Nat.le_of_ble_eq_true rfl) dX9_clash_31 hP hS hl) (fun v3 h => ?_)
      exact k_iret X hrt hlk dX9_clash_34 h
    · refine k_aload_n X dX9_clash_17 0 rfl ?_
      refine k_getR (t := 86) X fk_X9_43 (by rfl) (by decide) rfl dX9_clash_18 ?_
      refine k_getI X fk_X9_205 kzC_86 rfl dX9_clash_21 ?_
      refine k_goto (tgt := 34) X dX9_clash_24 (by decide) ?_
      exact k_iret X hrt hlk dX9_clash_34 h
  · refine k_iconst X dX9_clash_7 ?_
    exact k_iret X hrt hlk dX9_clash_8 h
set_option maxHeartbeats 4000000 in
set_option maxRecDepth 100000 in
theorem ct_X9_clear {l : Launch} {D : va_G} {cA : Nat → ClassId} {ad sa : Nat → Nat} (hj : kInj NC ad)  (z : Hp) (Kp : Int → Hp → Prop) (h : cal_X9_clear  z Kp) : kMet l yX9_clear cX9_clear 2 (some .int) 1 NC kdC D cA ad sa [.ref (ad 0)] z (kQi NC kdC D cA ad Kp) := by
  unfold cal_X9_clear at h
  refine k_met (cc := cX9_clear) (own := RX9) (nL := 2) rfl rfl (Nat.le_of_ble_eq_true rfl) hj kltC (fun p e s m below meth c X hrt hlk => ?_)
  refine k_sub (lv' := [(0, .ref (ad 0))]) [0] rfl ?_
  refine k_aload_n X dX9_clear_0 0 rfl ?_
  refine k_getR (t := 81) X fk_X9_26 (by rfl) (by decide) rfl dX9_clear_1 ?_
  refine k_getI X fk_X9_68 kzC_81 rfl dX9_clear_4 ?_
  refine k_istore_n X dX9_clear_7 h (fun v1 => [(1, kI v1), (0, .ref (ad 0))]) (by decide) (fun _ => rfl) (fun v1 h => ?_)
  refine k_aload_n X dX9_clear_8 1 rfl ?_
  refine k_getR (t := 81) X fk_X9_26 (by rfl) (by decide) rfl dX9_clear_9 ?_
  refine k_afterV (st := []) (fun H locs ls hP hS hl => k_runV (As := []) X lk_X9_75 rfl yo_X5_wipe rfl (kR_ok (by decide) (by decide)) (ct_X5_wipe (kCx_j X) 81 kzC_81 _ _ h) kzC_81 rfl (Nat.le_of_ble_eq_true rfl) dX9_clear_12 hP hS hl) (fun z2 h => ?_)
  refine k_iload_n X dX9_clear_15 0 rfl ?_
  exact k_iret X hrt hlk dX9_clear_16 h
set_option maxHeartbeats 4000000 in
set_option maxRecDepth 100000 in
theorem ct_X9_seekWays {l : Launch} {D : va_G} {cA : Nat → ClassId} {ad sa : Nat → Nat} (hj : kInj NC ad) (a1 : Int) (a2 : Int) (z : Hp) (Kp : Hp → Prop) (h : cal_X9_seekWays a1 a2 z Kp) : kMet l yX9_seekWays cX9_seekWays 3 none 3 NC kdC D cA ad sa [.ref (ad 0), kI a1, kI a2] z (kQv NC kdC D cA ad Kp) := by
  unfold cal_X9_seekWays at h
  refine k_met (cc := cX9_seekWays) (own := RX9) (nL := 3) rfl rfl (Nat.le_of_ble_eq_true rfl) hj kltC (fun p e s m below meth c X hrt hlk => ?_)
  refine k_sub (lv' := [(0, .ref (ad 0)), (1, kI a1), (2, kI a2)]) [0, 1, 2] rfl ?_
  refine k_aload_n X dX9_seekWays_0 0 rfl ?_
  refine k_getR (t := 133) X fk_X9_57 (by rfl) (by decide) rfl dX9_seekWays_1 ?_
  refine k_aload_n X dX9_seekWays_4 0 rfl ?_
  refine k_getR (t := 86) X fk_X9_43 (by rfl) (by decide) rfl dX9_seekWays_5 ?_
  refine k_getR (t := 88) X fk_X9_164 kzC_86 (by decide) rfl dX9_seekWays_8 ?_
  refine k_aload_n X dX9_seekWays_11 0 rfl ?_
  refine k_getR (t := 86) X fk_X9_43 (by rfl) (by decide) rfl dX9_seekWays_12 ?_
  refine k_getR (t := 88) X fk_X9_164 kzC_86 (by decide) rfl dX9_seekWays_15 ?_
  refine k_getR (t := 89) X fk_X9_168 kzC_88 (by decide) rfl dX9_seekWays_18 ?_
  refine k_iload_n X dX9_seekWays_21 1 rfl ?_
  refine k_iald X kzC_89 (Nat.le_of_ble_eq_true rfl) dX9_seekWays_22 h (fun h => ?_)
  refine k_aload_n X dX9_seekWays_23 0 rfl ?_
  refine k_getR (t := 86) X fk_X9_43 (by rfl) (by decide) rfl dX9_seekWays_24 ?_
  refine k_getR (t := 88) X fk_X9_164 kzC_86 (by decide) rfl dX9_seekWays_27 ?_
  refine k_getR (t := 89) X fk_X9_168 kzC_88 (by decide) rfl dX9_seekWays_30 ?_
  refine k_iload_n X dX9_seekWays_33 2 rfl ?_
  refine k_iald X kzC_89 (Nat.le_of_ble_eq_true rfl) dX9_seekWays_34 h (fun h => ?_)
  refine k_afterV (st := []) (fun H locs ls hP hS hl => k_runV (As := [.ref (ad 88), kI (z 89 a1.toNat), kI (z 89 a2.toNat)]) X lk_X9_356 rfl yo_X7_seek rfl (kR_ok (by decide) (by decide)) (ct_X7_seek (kCx_j X) 133 kzC_133 88 kzC_88 _ _ _ _ h) kzC_133 rfl (Nat.le_of_ble_eq_true rfl) dX9_seekWays_35 hP hS hl) (fun z1 h => ?_)
  exact k_vret X hrt hlk dX9_seekWays_38 h
set_option maxHeartbeats 4000000 in
set_option maxRecDepth 100000 in
theorem ct_X9_common {l : Launch} {D : va_G} {cA : Nat → ClassId} {ad sa : Nat → Nat} (hj : kInj NC ad) (a1 : Int) (a2 : Int) (z : Hp) (Kp : Int → Hp → Prop) (h : cal_X9_common a1 a2 z Kp) : kMet l yX9_common cX9_common 3 (some .int) 6 NC kdC D cA ad sa [.ref (ad 0), kI a1, kI a2] z (kQi NC kdC D cA ad Kp) := by
  unfold cal_X9_common at h
  refine k_met (cc := cX9_common) (own := RX9) (nL := 3) rfl rfl (Nat.le_of_ble_eq_true rfl) hj kltC (fun p e s m below meth c X hrt hlk => ?_)
  refine k_sub (lv' := [(0, .ref (ad 0)), (1, kI a1), (2, kI a2)]) [0, 1, 2] rfl ?_
  refine k_aload_n X dX9_common_0 0 rfl ?_
  refine k_iload_n X dX9_common_1 1 rfl ?_
  refine k_iload_n X dX9_common_2 2 rfl ?_
  refine k_afterP (st := []) (fun H locs ls hP hS hl => k_runV (As := [kI a1, kI a2]) X lk_X9_220 rfl yo_X9_arePersons rfl (kR_ok (by decide) (by decide)) (ct_X9_arePersons (kCx_j X) _ _ _ _ h) (by rfl) rfl (Nat.le_of_ble_eq_true rfl) dX9_common_3 hP hS hl) (fun v1 h => ?_)
  refine k_if_ne (tgt := 11) X dX9_common_6 (by decide) h (fun h => ?_) (fun h => ?_)
  · refine k_aload_n X dX9_common_11 0 rfl ?_
    refine k_afterV (st := []) (fun H locs ls hP hS hl => k_runV (As := []) X lk_X9_161 rfl yo_X9_settle rfl (kR_ok (by decide) (by decide)) (ct_X9_settle (kCx_j X)  _ _ h) (by rfl) rfl (Nat.le_of_ble_eq_true rfl) dX9_common_12 hP hS hl) (fun z2 h => ?_)
    refine k_aload_n X dX9_common_15 0 rfl ?_
    refine k_iload_n X dX9_common_16 1 rfl ?_
    refine k_iload_n X dX9_common_17 2 rfl ?_
    refine k_afterV (st := []) (fun H locs ls hP hS hl => k_runV (As := [kI a1, kI a2]) X lk_X9_237 rfl yo_X9_seekWays rfl (kR_ok (by decide) (by decide)) (ct_X9_seekWays (kCx_j X) _ _ _ _ h) (by rfl) rfl (Nat.le_of_ble_eq_true rfl) dX9_common_18 hP hS hl) (fun z3 h => ?_)
    refine k_aload_n X dX9_common_21 0 rfl ?_
    refine k_getR (t := 133) X fk_X9_57 (by rfl) (by decide) rfl dX9_common_22 ?_
    refine k_getI X fk_X9_240 kzC_133 rfl dX9_common_25 ?_
    refine k_if_ge (tgt := 36) X dX9_common_28 (by decide) h (fun h => ?_) (fun h => ?_)
    · refine k_aload_n X dX9_common_36 0 rfl ?_
      refine k_getR (t := 133) X fk_X9_57 (by rfl) (by decide) rfl dX9_common_37 ?_
      refine k_getI X fk_X9_240 kzC_133 rfl dX9_common_40 ?_
      exact k_iret X hrt hlk dX9_common_43 h
    · refine k_bipush X dX9_common_31 (by decide +kernel) ?_
      refine k_goto (tgt := 43) X dX9_common_33 (by decide) ?_
      exact k_iret X hrt hlk dX9_common_43 h
  · refine k_iconst X dX9_common_9 ?_
    exact k_iret X hrt hlk dX9_common_10 h
set_option maxHeartbeats 4000000 in
set_option maxRecDepth 100000 in
theorem ct_X9_settleCulprits {l : Launch} {D : va_G} {cA : Nat → ClassId} {ad sa : Nat → Nat} (hj : kInj NC ad)  (z : Hp) (Kp : Hp → Prop) (h : cal_X9_settleCulprits  z Kp) : kMet l yX9_settleCulprits cX9_settleCulprits 2 none 5 NC kdC D cA ad sa [.ref (ad 0)] z (kQv NC kdC D cA ad Kp) := by
  unfold cal_X9_settleCulprits at h
  refine k_met (cc := cX9_settleCulprits) (own := RX9) (nL := 2) rfl rfl (Nat.le_of_ble_eq_true rfl) hj kltC (fun p e s m below meth c X hrt hlk => ?_)
  refine k_sub (lv' := [(0, .ref (ad 0))]) [0] rfl ?_
  refine k_aload_n X dX9_settleCulprits_0 0 rfl ?_
  refine k_getI X fk_X9_342 (by rfl) rfl dX9_settleCulprits_1 ?_
  refine k_if_eq (tgt := 8) X dX9_settleCulprits_4 (by decide) h (fun h => ?_) (fun h => ?_)
  · refine k_aload_n X dX9_settleCulprits_8 0 rfl ?_
    refine k_iconst X dX9_settleCulprits_9 ?_
    refine k_putI X fp_X9_217 (by rfl) rfl dX9_settleCulprits_10 (k_nameH h (fun z1 h => ?_))
    refine k_iconst X dX9_settleCulprits_13 ?_
    refine k_istore_n X dX9_settleCulprits_14 h (fun v2 => [(1, kI v2), (0, .ref (ad 0))]) (by decide) (fun _ => rfl) (fun v2 h => ?_)
    refine k_sub (lv' := [(0, .ref (ad 0)), (1, kI v2)]) [1, 0] rfl ?_
    refine h (fun v4 z5 => kAt p l e (kR 5) s m ([.ref (ad 0)] : List Value).toArray below meth c (MQ below (kQv NC kdC D cA ad Kp) ([.ref (ad 0)] : List Value).toArray s 0 0 (kA NC ad)) 2 NC kdC D cA ad 15 [(0, .ref (ad 0)), (1, kI v4)] [] z5) (fun v4 z5 h => ?_)
    refine k_iload_n X dX9_settleCulprits_15 1 rfl ?_
    refine k_aload_n X dX9_settleCulprits_16 0 rfl ?_
    refine k_getR (t := 86) X fk_X9_43 (by rfl) (by decide) rfl dX9_settleCulprits_17 ?_
    refine k_getI X fk_X9_306 kzC_86 rfl dX9_settleCulprits_20 ?_
    refine k_icmp_ge (tgt := 108) X dX9_settleCulprits_23 (by decide) h (fun h => ?_) (fun h => ?_)
    · refine k_aload_n X dX9_settleCulprits_108 0 rfl ?_
      refine k_iconst X dX9_settleCulprits_109 ?_
      refine k_putZ X fp_X9_342 (by rfl) rfl (Or.inr rfl) dX9_settleCulprits_110 (k_nameH h (fun z6 h => ?_))
      exact k_vret X hrt hlk dX9_settleCulprits_113 h
    · refine k_aload_n X dX9_settleCulprits_26 0 rfl ?_
      refine k_getR (t := 109) X fk_X9_47 (by rfl) (by decide) rfl dX9_settleCulprits_27 ?_
      refine k_aload_n X dX9_settleCulprits_30 0 rfl ?_
      refine k_getR (t := 1) X fk_X9_14 (by rfl) (by decide) rfl dX9_settleCulprits_31 ?_
      refine k_aload_n X dX9_settleCulprits_34 0 rfl ?_
      refine k_getR (t := 1) X fk_X9_14 (by rfl) (by decide) rfl dX9_settleCulprits_35 ?_
      refine k_getI X fk_X9_109 kzC_1 rfl dX9_settleCulprits_38 ?_
      refine k_aload_n X dX9_settleCulprits_41 0 rfl ?_
      refine k_getR (t := 86) X fk_X9_43 (by rfl) (by decide) rfl dX9_settleCulprits_42 ?_
      refine k_getR (t := 87) X fk_X9_353 kzC_86 (by decide) rfl dX9_settleCulprits_45 ?_
      refine k_iload_n X dX9_settleCulprits_48 1 rfl ?_
      refine k_iald X kzC_87 (Nat.le_of_ble_eq_true rfl) dX9_settleCulprits_49 h (fun h => ?_)
      refine k_bipush X dX9_settleCulprits_50 (by decide +kernel) ?_
      refine k_afterV (st := []) (fun H locs ls hP hS hl => k_runV (As := [.ref (ad 1), kI (z5 1 1), kI (z5 87 v4.toNat), kI 125]) X lk_X9_346 rfl yo_X8_work rfl (kR_ok (by decide) (by decide)) (ct_X8_work (kCx_j X) 109 kzC_109 1 kzC_1 _ _ _ _ _ h) kzC_109 rfl (Nat.le_of_ble_eq_true rfl) dX9_settleCulprits_52 hP hS hl) (fun z7 h => ?_)
      refine k_aload_n X dX9_settleCulprits_55 0 rfl ?_
      refine k_getR (t := 109) X fk_X9_47 (by rfl) (by decide) rfl dX9_settleCulprits_56 ?_
      refine k_getI X fk_X9_205 kzC_109 rfl dX9_settleCulprits_59 ?_
      refine jn_use (fun J8 => ∀ (z9 : Hp), J8 z9 → kAt p l e (kR 5) s m ([.ref (ad 0)] : List Value).toArray below meth c (MQ below (kQv NC kdC D cA ad Kp) ([.ref (ad 0)] : List Value).toArray s 0 0 (kA NC ad)) 2 NC kdC D cA ad 102 [(0, .ref (ad 0)), (1, kI v4)] [] z9) h ?_ (fun J8 hJ8 h => ?_)
      · intro z9 h
        refine k_iinc X dX9_settleCulprits_102 1 rfl h (fun v10 => [(1, kI v10), (0, .ref (ad 0))]) (by decide) (fun _ => rfl) (fun v10 h => ?_)
        refine k_goto (tgt := 15) X dX9_settleCulprits_105 (by decide) ?_
        exact k_sub [1, 0] rfl h
      · refine k_if_ne (tgt := 102) X dX9_settleCulprits_62 (by decide) h (fun h => ?_) (fun h => ?_)
        · exact k_sub [0, 1] rfl (hJ8 _ h)
        · refine k_aload_n X dX9_settleCulprits_65 0 rfl ?_
          refine k_getI X fk_X9_217 (by rfl) rfl dX9_settleCulprits_66 ?_
          refine k_bipush X dX9_settleCulprits_69 (by decide +kernel) ?_
          refine k_icmp_ge (tgt := 102) X dX9_settleCulprits_71 (by decide) ⟨h.1, ⟨by decide, by decide⟩, h.2⟩ (fun h => ?_) (fun h => ?_)
          · exact k_sub [0, 1] rfl (hJ8 _ h)
          · refine k_aload_n X dX9_settleCulprits_74 0 rfl ?_
            refine k_getR (t := 132) X fk_X9_50 (by rfl) (by decide) rfl dX9_settleCulprits_75 ?_
            refine k_aload_n X dX9_settleCulprits_78 0 rfl ?_
            refine k_getI X fk_X9_217 (by rfl) rfl dX9_settleCulprits_79 ?_
            refine k_aload_n X dX9_settleCulprits_82 0 rfl ?_
            refine k_getR (t := 86) X fk_X9_43 (by rfl) (by decide) rfl dX9_settleCulprits_83 ?_
            refine k_getR (t := 87) X fk_X9_353 kzC_86 (by decide) rfl dX9_settleCulprits_86 ?_
            refine k_iload_n X dX9_settleCulprits_89 1 rfl ?_
            refine k_iald X kzC_87 (Nat.le_of_ble_eq_true rfl) dX9_settleCulprits_90 h (fun h => ?_)
            refine k_iast X kzC_132 (Nat.le_of_ble_eq_true rfl) dX9_settleCulprits_91 h (fun h => k_nameH h (fun z11 h => ?_))
            refine k_aload_n X dX9_settleCulprits_92 0 rfl ?_
            refine k_dup X dX9_settleCulprits_93 rfl ?_
            refine k_getI X fk_X9_217 (by rfl) rfl dX9_settleCulprits_94 ?_
            refine k_iconst X dX9_settleCulprits_97 ?_
            refine k_iadd X dX9_settleCulprits_98 ?_
            refine k_putI X fp_X9_217 (by rfl) rfl dX9_settleCulprits_99 (k_nameH h (fun z12 h => ?_))
            exact k_sub [0, 1] rfl (hJ8 _ h)
  · exact k_vret X hrt hlk dX9_settleCulprits_7 h
set_option maxHeartbeats 4000000 in
set_option maxRecDepth 100000 in
theorem ct_X9_culprit {l : Launch} {D : va_G} {cA : Nat → ClassId} {ad sa : Nat → Nat} (hj : kInj NC ad) (a1 : Int) (z : Hp) (Kp : Int → Hp → Prop) (h : cal_X9_culprit a1 z Kp) : kMet l yX9_culprit cX9_culprit 2 (some .int) 6 NC kdC D cA ad sa [.ref (ad 0), kI a1] z (kQi NC kdC D cA ad Kp) := by
  unfold cal_X9_culprit at h
  refine k_met (cc := cX9_culprit) (own := RX9) (nL := 2) rfl rfl (Nat.le_of_ble_eq_true rfl) hj kltC (fun p e s m below meth c X hrt hlk => ?_)
  refine k_sub (lv' := [(0, .ref (ad 0)), (1, kI a1)]) [0, 1] rfl ?_
  refine k_iload_n X dX9_culprit_0 1 rfl ?_
  refine k_iconst X dX9_culprit_1 ?_
  refine k_icmp_ge (tgt := 7) X dX9_culprit_2 (by decide) ⟨h.1, ⟨by decide, by decide⟩, h.2⟩ (fun h => ?_) (fun h => ?_)
  · refine k_aload_n X dX9_culprit_7 0 rfl ?_
    refine k_afterV (st := []) (fun H locs ls hP hS hl => k_runV (As := []) X lk_X9_161 rfl yo_X9_settle rfl (kR_ok (by decide) (by decide)) (ct_X9_settle (kCx_j X)  _ _ h) (by rfl) rfl (Nat.le_of_ble_eq_true rfl) dX9_culprit_8 hP hS hl) (fun z1 h => ?_)
    refine k_aload_n X dX9_culprit_11 0 rfl ?_
    refine k_getR (t := 86) X fk_X9_43 (by rfl) (by decide) rfl dX9_culprit_12 ?_
    refine k_getI X fk_X9_205 kzC_86 rfl dX9_culprit_15 ?_
    refine k_if_ne (tgt := 24) X dX9_culprit_18 (by decide) h (fun h => ?_) (fun h => ?_)
    · refine k_aload_n X dX9_culprit_24 0 rfl ?_
      refine k_afterV (st := []) (fun H locs ls hP hS hl => k_runV (As := []) X lk_X9_214 rfl yo_X9_settleCulprits rfl (kR_ok (by decide) (by decide)) (ct_X9_settleCulprits (kCx_j X)  _ _ h) (by rfl) rfl (Nat.le_of_ble_eq_true rfl) dX9_culprit_25 hP hS hl) (fun z2 h => ?_)
      refine k_iload_n X dX9_culprit_28 1 rfl ?_
      refine k_iconst X dX9_culprit_29 ?_
      refine k_icmp_ne (tgt := 38) X dX9_culprit_30 (by decide) ⟨h.1, ⟨by decide, by decide⟩, h.2⟩ (fun h => ?_) (fun h => ?_)
      · refine k_iload_n X dX9_culprit_38 1 rfl ?_
        refine k_aload_n X dX9_culprit_39 0 rfl ?_
        refine k_getI X fk_X9_217 (by rfl) rfl dX9_culprit_40 ?_
        refine k_icmp_ge (tgt := 55) X dX9_culprit_43 (by decide) h (fun h => ?_) (fun h => ?_)
        · refine k_iconst X dX9_culprit_55 ?_
          exact k_iret X hrt hlk dX9_culprit_56 h
        · refine k_aload_n X dX9_culprit_46 0 rfl ?_
          refine k_getR (t := 132) X fk_X9_50 (by rfl) (by decide) rfl dX9_culprit_47 ?_
          refine k_iload_n X dX9_culprit_50 1 rfl ?_
          refine k_iald X kzC_132 (Nat.le_of_ble_eq_true rfl) dX9_culprit_51 h (fun h => ?_)
          refine k_goto (tgt := 56) X dX9_culprit_52 (by decide) ?_
          exact k_iret X hrt hlk dX9_culprit_56 h
      · refine k_aload_n X dX9_culprit_33 0 rfl ?_
        refine k_getI X fk_X9_217 (by rfl) rfl dX9_culprit_34 ?_
        exact k_iret X hrt hlk dX9_culprit_37 h
    · refine k_bipush X dX9_culprit_21 (by decide +kernel) ?_
      exact k_iret X hrt hlk dX9_culprit_23 h
  · refine k_iconst X dX9_culprit_5 ?_
    exact k_iret X hrt hlk dX9_culprit_6 h
set_option maxHeartbeats 4000000 in
set_option maxRecDepth 100000 in
theorem ct_X9_descendants {l : Launch} {D : va_G} {cA : Nat → ClassId} {ad sa : Nat → Nat} (hj : kInj NC ad) (a1 : Int) (z : Hp) (Kp : Int → Hp → Prop) (h : cal_X9_descendants a1 z Kp) : kMet l yX9_descendants cX9_descendants 2 (some .long) 6 NC kdC D cA ad sa [.ref (ad 0), kI a1] z (kQl NC kdC D cA ad Kp) := by
  unfold cal_X9_descendants at h
  refine k_met (cc := cX9_descendants) (own := RX9) (nL := 2) rfl rfl (Nat.le_of_ble_eq_true rfl) hj kltC (fun p e s m below meth c X hrt hlk => ?_)
  refine k_sub (lv' := [(0, .ref (ad 0)), (1, kI a1)]) [0, 1] rfl ?_
  refine k_aload_n X dX9_descendants_0 0 rfl ?_
  refine k_getR (t := 1) X fk_X9_14 (by rfl) (by decide) rfl dX9_descendants_1 ?_
  refine k_iload_n X dX9_descendants_4 1 rfl ?_
  refine k_afterP (st := []) (fun H locs ls hP hS hl => k_runV (As := [kI a1]) X lk_X9_100 rfl yo_X0_isPerson rfl (kR_ok (by decide) (by decide)) (ct_X0_isPerson (kCx_j X) 1 kzC_1 _ _ _ h) kzC_1 rfl (Nat.le_of_ble_eq_true rfl) dX9_descendants_5 hP hS hl) (fun v1 h => ?_)
  refine k_if_ne (tgt := 15) X dX9_descendants_8 (by decide) h (fun h => ?_) (fun h => ?_)
  · refine k_aload_n X dX9_descendants_15 0 rfl ?_
    refine k_afterV (st := []) (fun H locs ls hP hS hl => k_runV (As := []) X lk_X9_161 rfl yo_X9_settle rfl (kR_ok (by decide) (by decide)) (ct_X9_settle (kCx_j X)  _ _ h) (by rfl) rfl (Nat.le_of_ble_eq_true rfl) dX9_descendants_16 hP hS hl) (fun z2 h => ?_)
    refine k_aload_n X dX9_descendants_19 0 rfl ?_
    refine k_getR (t := 86) X fk_X9_43 (by rfl) (by decide) rfl dX9_descendants_20 ?_
    refine k_getR (t := 88) X fk_X9_164 kzC_86 (by decide) rfl dX9_descendants_23 ?_
    refine k_aload_n X dX9_descendants_26 0 rfl ?_
    refine k_getR (t := 86) X fk_X9_43 (by rfl) (by decide) rfl dX9_descendants_27 ?_
    refine k_getR (t := 88) X fk_X9_164 kzC_86 (by decide) rfl dX9_descendants_30 ?_
    refine k_getR (t := 89) X fk_X9_168 kzC_88 (by decide) rfl dX9_descendants_33 ?_
    refine k_iload_n X dX9_descendants_36 1 rfl ?_
    refine k_iald X kzC_89 (Nat.le_of_ble_eq_true rfl) dX9_descendants_37 h (fun h => ?_)
    refine k_afterP (st := []) (fun H locs ls hP hS hl => k_runV (As := [kI (z2 89 a1.toNat)]) X lk_X9_297 rfl yo_X1_below rfl (kR_ok (by decide) (by decide)) (ct_X1_below (kCx_j X) 88 kzC_88 _ _ _ h) kzC_88 rfl (Nat.le_of_ble_eq_true rfl) dX9_descendants_38 hP hS hl) (fun v3 h => ?_)
    refine k_i2l X dX9_descendants_41 h (fun h => ?_)
    exact k_lret X hrt hlk dX9_descendants_42 h
  · refine k_ldc2 X (-9223372036854775808) mw775 dX9_descendants_11 ?_
    exact k_lret X hrt hlk dX9_descendants_14 h
set_option maxHeartbeats 4000000 in
set_option maxRecDepth 100000 in
theorem ct_X9_isEnd {l : Launch} {D : va_G} {cA : Nat → ClassId} {ad sa : Nat → Nat} (hj : kInj NC ad) (a1 : Int) (a2 : Int) (a3 : Int) (z : Hp) (Kp : Int → Prop) (h : cal_X9_isEnd a1 a2 a3 z Kp) : kMet l yX9_isEnd cX9_isEnd 4 (some .boolean) 1 NC kdC D cA ad sa [.ref (ad 0), kI a1, kI a2, kI a3] z (kQi NC kdC D cA ad (fun v z1 => z1 = z ∧ Kp v)) := by
  unfold cal_X9_isEnd at h
  refine k_met (cc := cX9_isEnd) (own := RX9) (nL := 4) rfl rfl (Nat.le_of_ble_eq_true rfl) hj kltC (fun p e s m below meth c X hrt hlk => ?_)
  refine k_sub (lv' := [(0, .ref (ad 0)), (1, kI a1), (2, kI a2), (3, kI a3)]) [0, 1, 2, 3] rfl ?_
  refine k_aload_n X dX9_isEnd_0 0 rfl ?_
  refine k_getR (t := 1) X fk_X9_14 (by rfl) (by decide) rfl dX9_isEnd_1 ?_
  refine k_iload_n X dX9_isEnd_4 1 rfl ?_
  refine k_afterP (st := []) (fun H locs ls hP hS hl => k_runV (As := [kI a1]) X lk_X9_100 rfl yo_X0_isPerson rfl (kR_ok (by decide) (by decide)) (ct_X0_isPerson (kCx_j X) 1 kzC_1 _ _ _ h) kzC_1 rfl (Nat.le_of_ble_eq_true rfl) dX9_isEnd_5 hP hS hl) (fun v1 h => ?_)
  refine k_if_eq (tgt := 29) X dX9_isEnd_8 (by decide) h (fun h => ?_) (fun h => ?_)
  · refine k_iconst X dX9_isEnd_29 ?_
    exact k_zret X hrt hlk dX9_isEnd_30 ⟨Or.inl rfl, ⟨rfl, h⟩⟩
  · refine k_iload_n X dX9_isEnd_11 2 rfl ?_
    refine k_afterP (st := []) (fun H locs ls hP hS hl => k_runS (As := [kI a2]) X lk_X9_106 yo_X9_isFlag rfl (kR_ok (by decide) (by decide)) (ct_X9_isFlag (kCx_j X) _ _ _ h) (Nat.le_of_ble_eq_true rfl) dX9_isEnd_12 hP hS hl) (fun v2 h => ?_)
    refine k_if_eq (tgt := 29) X dX9_isEnd_15 (by decide) h (fun h => ?_) (fun h => ?_)
    · refine k_iconst X dX9_isEnd_29 ?_
      exact k_zret X hrt hlk dX9_isEnd_30 ⟨Or.inl rfl, ⟨rfl, h⟩⟩
    · refine k_iload_n X dX9_isEnd_18 3 rfl ?_
      refine k_afterP (st := []) (fun H locs ls hP hS hl => k_runS (As := [kI a3]) X lk_X9_106 yo_X9_isFlag rfl (kR_ok (by decide) (by decide)) (ct_X9_isFlag (kCx_j X) _ _ _ h) (Nat.le_of_ble_eq_true rfl) dX9_isEnd_19 hP hS hl) (fun v3 h => ?_)
      refine k_if_eq (tgt := 29) X dX9_isEnd_22 (by decide) h (fun h => ?_) (fun h => ?_)
      · refine k_iconst X dX9_isEnd_29 ?_
        exact k_zret X hrt hlk dX9_isEnd_30 ⟨Or.inl rfl, ⟨rfl, h⟩⟩
      · refine k_iconst X dX9_isEnd_25 ?_
        refine k_goto (tgt := 30) X dX9_isEnd_26 (by decide) ?_
        exact k_zret X hrt hlk dX9_isEnd_30 ⟨Or.inr rfl, ⟨rfl, h⟩⟩
set_option maxHeartbeats 4000000 in
set_option maxRecDepth 100000 in
theorem ct_X9_end {l : Launch} {D : va_G} {cA : Nat → ClassId} {ad sa : Nat → Nat} (hj : kInj NC ad) (a1 : Int) (a2 : Int) (a3 : Int) (z : Hp) (Kp : Int → Hp → Prop) (h : cal_X9_end a1 a2 a3 z Kp) : kMet l yX9_end cX9_end 4 (some .int) 6 NC kdC D cA ad sa [.ref (ad 0), kI a1, kI a2, kI a3] z (kQi NC kdC D cA ad Kp) := by
  unfold cal_X9_end at h
  refine k_met (cc := cX9_end) (own := RX9) (nL := 4) rfl rfl (Nat.le_of_ble_eq_true rfl) hj kltC (fun p e s m below meth c X hrt hlk => ?_)
  refine k_sub (lv' := [(0, .ref (ad 0)), (1, kI a1), (2, kI a2), (3, kI a3)]) [0, 1, 2, 3] rfl ?_
  refine k_aload_n X dX9_end_0 0 rfl ?_
  refine k_iload_n X dX9_end_1 1 rfl ?_
  refine k_iload_n X dX9_end_2 2 rfl ?_
  refine k_iload_n X dX9_end_3 3 rfl ?_
  refine k_afterP (st := []) (fun H locs ls hP hS hl => k_runV (As := [kI a1, kI a2, kI a3]) X lk_X9_177 rfl yo_X9_isEnd rfl (kR_ok (by decide) (by decide)) (ct_X9_isEnd (kCx_j X) _ _ _ _ _ h) (by rfl) rfl (Nat.le_of_ble_eq_true rfl) dX9_end_4 hP hS hl) (fun v1 h => ?_)
  refine k_if_ne (tgt := 12) X dX9_end_7 (by decide) h (fun h => ?_) (fun h => ?_)
  · refine k_aload_n X dX9_end_12 0 rfl ?_
    refine k_afterV (st := []) (fun H locs ls hP hS hl => k_runV (As := []) X lk_X9_161 rfl yo_X9_settle rfl (kR_ok (by decide) (by decide)) (ct_X9_settle (kCx_j X)  _ _ h) (by rfl) rfl (Nat.le_of_ble_eq_true rfl) dX9_end_13 hP hS hl) (fun z2 h => ?_)
    refine k_aload_n X dX9_end_16 0 rfl ?_
    refine k_getR (t := 86) X fk_X9_43 (by rfl) (by decide) rfl dX9_end_17 ?_
    refine k_getR (t := 99) X fk_X9_181 kzC_86 (by decide) rfl dX9_end_20 ?_
    refine k_getR (t := 100) X fk_X9_185 kzC_99 (by decide) rfl dX9_end_23 ?_
    refine k_aload_n X dX9_end_26 0 rfl ?_
    refine k_getR (t := 86) X fk_X9_43 (by rfl) (by decide) rfl dX9_end_27 ?_
    refine k_iload_n X dX9_end_30 1 rfl ?_
    refine k_iload_n X dX9_end_31 2 rfl ?_
    refine k_iload_n X dX9_end_32 3 rfl ?_
    refine k_afterP (st := [.ref (ad 100)]) (fun H locs ls hP hS hl => k_runS (As := [.ref (ad 86), kI a1, kI a2, kI a3]) X lk_X9_190 yo_X9_personEnd rfl (kR_ok (by decide) (by decide)) (ct_X9_personEnd (kCx_j X) 86 kzC_86 _ _ _ _ _ h) (Nat.le_of_ble_eq_true rfl) dX9_end_33 hP hS hl) (fun v3 h => ?_)
    refine k_iald X kzC_100 (Nat.le_of_ble_eq_true rfl) dX9_end_36 h (fun h => ?_)
    exact k_iret X hrt hlk dX9_end_37 h
  · refine k_iconst X dX9_end_10 ?_
    exact k_iret X hrt hlk dX9_end_11 h
set_option maxHeartbeats 4000000 in
set_option maxRecDepth 100000 in
theorem ct_X9_feed {l : Launch} {D : va_G} {cA : Nat → ClassId} {ad sa : Nat → Nat} (hj : kInj NC ad) (a1 : Int) (z : Hp) (Kp : Int → Hp → Prop) (h : cal_X9_feed a1 z Kp) : kMet l yX9_feed cX9_feed 2 (some .int) 1 NC kdC D cA ad sa [.ref (ad 0), kI a1] z (kQi NC kdC D cA ad Kp) := by
  unfold cal_X9_feed at h
  refine k_met (cc := cX9_feed) (own := RX9) (nL := 2) rfl rfl (Nat.le_of_ble_eq_true rfl) hj kltC (fun p e s m below meth c X hrt hlk => ?_)
  refine k_sub (lv' := [(0, .ref (ad 0)), (1, kI a1)]) [0, 1] rfl ?_
  refine k_iload_n X dX9_feed_0 1 rfl ?_
  refine k_iconst X dX9_feed_1 ?_
  refine k_icmp_lt (tgt := 11) X dX9_feed_2 (by decide) ⟨h.1, ⟨by decide, by decide⟩, h.2⟩ (fun h => ?_) (fun h => ?_)
  · refine k_bipush X dX9_feed_11 (by decide +kernel) ?_
    exact k_iret X hrt hlk dX9_feed_13 h
  · refine k_iload_n X dX9_feed_5 1 rfl ?_
    refine k_bipush X dX9_feed_6 (by decide +kernel) ?_
    refine k_icmp_le (tgt := 14) X dX9_feed_8 (by decide) ⟨h.1, ⟨by decide, by decide⟩, h.2⟩ (fun h => ?_) (fun h => ?_)
    · refine k_aload_n X dX9_feed_14 0 rfl ?_
      refine k_getR (t := 81) X fk_X9_26 (by rfl) (by decide) rfl dX9_feed_15 ?_
      refine k_getI X fk_X9_68 kzC_81 rfl dX9_feed_18 ?_
      refine k_bipush X dX9_feed_21 (by decide +kernel) ?_
      refine k_icmp_lt (tgt := 29) X dX9_feed_23 (by decide) ⟨h.1, ⟨by decide, by decide⟩, h.2⟩ (fun h => ?_) (fun h => ?_)
      · refine k_aload_n X dX9_feed_29 0 rfl ?_
        refine k_getR (t := 81) X fk_X9_26 (by rfl) (by decide) rfl dX9_feed_30 ?_
        refine k_iload_n X dX9_feed_33 1 rfl ?_
        refine k_afterV (st := []) (fun H locs ls hP hS hl => k_runV (As := [kI a1]) X lk_X9_72 rfl yo_X5_put rfl (kR_ok (by decide) (by decide)) (ct_X5_put (kCx_j X) 81 kzC_81 _ _ _ h) kzC_81 rfl (Nat.le_of_ble_eq_true rfl) dX9_feed_34 hP hS hl) (fun z1 h => ?_)
        refine k_aload_n X dX9_feed_37 0 rfl ?_
        refine k_getR (t := 81) X fk_X9_26 (by rfl) (by decide) rfl dX9_feed_38 ?_
        refine k_getI X fk_X9_68 kzC_81 rfl dX9_feed_41 ?_
        exact k_iret X hrt hlk dX9_feed_44 h
      · refine k_bipush X dX9_feed_26 (by decide +kernel) ?_
        exact k_iret X hrt hlk dX9_feed_28 h
    · refine k_bipush X dX9_feed_11 (by decide +kernel) ?_
      exact k_iret X hrt hlk dX9_feed_13 h
set_option maxHeartbeats 4000000 in
set_option maxRecDepth 100000 in
theorem ct_X9_find {l : Launch} {D : va_G} {cA : Nat → ClassId} {ad sa : Nat → Nat} (hj : kInj NC ad) (a1 : Int) (z : Hp) (Kp : Int → Hp → Prop) (h : cal_X9_find a1 z Kp) : kMet l yX9_find cX9_find 3 (some .int) 3 NC kdC D cA ad sa [.ref (ad 0), kI a1] z (kQi NC kdC D cA ad Kp) := by
  unfold cal_X9_find at h
  refine k_met (cc := cX9_find) (own := RX9) (nL := 3) rfl rfl (Nat.le_of_ble_eq_true rfl) hj kltC (fun p e s m below meth c X hrt hlk => ?_)
  refine k_sub (lv' := [(0, .ref (ad 0)), (1, kI a1)]) [0, 1] rfl ?_
  refine k_aload_n X dX9_find_0 0 rfl ?_
  refine k_getR (t := 1) X fk_X9_14 (by rfl) (by decide) rfl dX9_find_1 ?_
  refine k_aload_n X dX9_find_4 0 rfl ?_
  refine k_getR (t := 81) X fk_X9_26 (by rfl) (by decide) rfl dX9_find_5 ?_
  refine k_iload_n X dX9_find_8 1 rfl ?_
  refine k_afterP (st := []) (fun H locs ls hP hS hl => k_runV (As := [.ref (ad 81), kI a1]) X lk_X9_154 rfl yo_X0_findNamed rfl (kR_ok (by decide) (by decide)) (ct_X0_findNamed (kCx_j X) 1 kzC_1 81 kzC_81 _ _ _ h) kzC_1 rfl (Nat.le_of_ble_eq_true rfl) dX9_find_9 hP hS hl) (fun v1 h => ?_)
  refine k_istore_n X dX9_find_12 h (fun v2 => [(2, kI v2), (0, .ref (ad 0)), (1, kI a1)]) (by decide) (fun _ => rfl) (fun v2 h => ?_)
  refine k_aload_n X dX9_find_13 1 rfl ?_
  refine k_getR (t := 81) X fk_X9_26 (by rfl) (by decide) rfl dX9_find_14 ?_
  refine k_afterV (st := []) (fun H locs ls hP hS hl => k_runV (As := []) X lk_X9_75 rfl yo_X5_wipe rfl (kR_ok (by decide) (by decide)) (ct_X5_wipe (kCx_j X) 81 kzC_81 _ _ h) kzC_81 rfl (Nat.le_of_ble_eq_true rfl) dX9_find_17 hP hS hl) (fun z3 h => ?_)
  refine k_iload_n X dX9_find_20 0 rfl ?_
  exact k_iret X hrt hlk dX9_find_21 h
set_option maxHeartbeats 4000000 in
set_option maxRecDepth 100000 in
theorem ct_X9_get {l : Launch} {D : va_G} {cA : Nat → ClassId} {ad sa : Nat → Nat} (hj : kInj NC ad) (a1 : Int) (a2 : Int) (z : Hp) (Kp : Int → Prop) (h : cal_X9_get a1 a2 z Kp) : kMet l yX9_get cX9_get 3 (some .long) 1 NC kdC D cA ad sa [.ref (ad 0), kI a1, kI a2] z (kQl NC kdC D cA ad (fun v z1 => z1 = z ∧ Kp v)) := by
  unfold cal_X9_get at h
  refine k_met (cc := cX9_get) (own := RX9) (nL := 3) rfl rfl (Nat.le_of_ble_eq_true rfl) hj kltC (fun p e s m below meth c X hrt hlk => ?_)
  refine k_sub (lv' := [(0, .ref (ad 0)), (1, kI a1), (2, kI a2)]) [0, 1, 2] rfl ?_
  refine k_aload_n X dX9_get_0 0 rfl ?_
  refine k_getR (t := 136) X fk_X9_64 (by rfl) (by decide) rfl dX9_get_1 ?_
  refine k_iload_n X dX9_get_4 1 rfl ?_
  refine k_afterP (st := []) (fun H locs ls hP hS hl => k_runV (As := [kI a1]) X lk_X9_315 rfl yo_X2_isList rfl (kR_ok (by decide) (by decide)) (ct_X2_isList (kCx_j X) 136 kzC_136 _ _ _ h) kzC_136 rfl (Nat.le_of_ble_eq_true rfl) dX9_get_5 hP hS hl) (fun v1 h => ?_)
  refine k_if_eq (tgt := 39) X dX9_get_8 (by decide) h (fun h => ?_) (fun h => ?_)
  · refine k_ldc2 X (-9223372036854775808) mw775 dX9_get_39 ?_
    exact k_lret X hrt hlk dX9_get_42 ⟨rfl, h⟩
  · refine k_aload_n X dX9_get_11 0 rfl ?_
    refine k_getR (t := 136) X fk_X9_64 (by rfl) (by decide) rfl dX9_get_12 ?_
    refine k_iload_n X dX9_get_15 1 rfl ?_
    refine k_iload_n X dX9_get_16 2 rfl ?_
    refine k_iconst X dX9_get_17 ?_
    refine k_afterP (st := []) (fun H locs ls hP hS hl => k_runV (As := [kI a1, kI a2, kI 0]) X lk_X9_324 rfl yo_X2_hasPlace rfl (kR_ok (by decide) (by decide)) (ct_X2_hasPlace (kCx_j X) 136 kzC_136 _ _ _ _ _ h) kzC_136 rfl (Nat.le_of_ble_eq_true rfl) dX9_get_18 hP hS hl) (fun v2 h => ?_)
    refine k_if_eq (tgt := 39) X dX9_get_21 (by decide) h (fun h => ?_) (fun h => ?_)
    · refine k_ldc2 X (-9223372036854775808) mw775 dX9_get_39 ?_
      exact k_lret X hrt hlk dX9_get_42 ⟨rfl, h⟩
    · refine k_aload_n X dX9_get_24 0 rfl ?_
      refine k_getR (t := 136) X fk_X9_64 (by rfl) (by decide) rfl dX9_get_25 ?_
      refine k_getR (t := 137) X fk_X9_327 kzC_136 (by decide) rfl dX9_get_28 ?_
      refine k_iload_n X dX9_get_31 1 rfl ?_
      have hb3 := h.1
      refine k_aald X kzC_137 rfl rfl (Nat.le_of_ble_eq_true rfl) dX9_get_32 h (fun h => ?_)
      refine k_iload_n X dX9_get_33 2 rfl ?_
      refine k_iald X (kc_r3 kzC_137 (ki_lt hb3)) (Nat.le_of_ble_eq_true rfl) dX9_get_34 h (fun h => ?_)
      refine k_i2l X dX9_get_35 h (fun h => ?_)
      refine k_goto (tgt := 42) X dX9_get_36 (by decide) ?_
      exact k_lret X hrt hlk dX9_get_42 ⟨rfl, h⟩
set_option maxHeartbeats 4000000 in
set_option maxRecDepth 100000 in
theorem ct_X9_half {l : Launch} {D : va_G} {cA : Nat → ClassId} {ad sa : Nat → Nat} (hj : kInj NC ad) (a1 : Int) (a2 : Int) (z : Hp) (Kp : Int → Hp → Prop) (h : cal_X9_half a1 a2 z Kp) : kMet l yX9_half cX9_half 3 (some .int) 6 NC kdC D cA ad sa [.ref (ad 0), kI a1, kI a2] z (kQi NC kdC D cA ad Kp) := by
  unfold cal_X9_half at h
  refine k_met (cc := cX9_half) (own := RX9) (nL := 3) rfl rfl (Nat.le_of_ble_eq_true rfl) hj kltC (fun p e s m below meth c X hrt hlk => ?_)
  refine k_sub (lv' := [(0, .ref (ad 0)), (1, kI a1), (2, kI a2)]) [0, 1, 2] rfl ?_
  refine k_aload_n X dX9_half_0 0 rfl ?_
  refine k_iload_n X dX9_half_1 1 rfl ?_
  refine k_iload_n X dX9_half_2 2 rfl ?_
  refine k_afterP (st := []) (fun H locs ls hP hS hl => k_runV (As := [kI a1, kI a2]) X lk_X9_220 rfl yo_X9_arePersons rfl (kR_ok (by decide) (by decide)) (ct_X9_arePersons (kCx_j X) _ _ _ _ h) (by rfl) rfl (Nat.le_of_ble_eq_true rfl) dX9_half_3 hP hS hl) (fun v1 h => ?_)
  refine k_if_ne (tgt := 11) X dX9_half_6 (by decide) h (fun h => ?_) (fun h => ?_)
  · refine k_aload_n X dX9_half_11 0 rfl ?_
    refine k_afterV (st := []) (fun H locs ls hP hS hl => k_runV (As := []) X lk_X9_161 rfl yo_X9_settle rfl (kR_ok (by decide) (by decide)) (ct_X9_settle (kCx_j X)  _ _ h) (by rfl) rfl (Nat.le_of_ble_eq_true rfl) dX9_half_12 hP hS hl) (fun z2 h => ?_)
    refine k_aload_n X dX9_half_15 0 rfl ?_
    refine k_iload_n X dX9_half_16 1 rfl ?_
    refine k_iload_n X dX9_half_17 2 rfl ?_
    refine k_afterV (st := []) (fun H locs ls hP hS hl => k_runV (As := [kI a1, kI a2]) X lk_X9_237 rfl yo_X9_seekWays rfl (kR_ok (by decide) (by decide)) (ct_X9_seekWays (kCx_j X) _ _ _ _ h) (by rfl) rfl (Nat.le_of_ble_eq_true rfl) dX9_half_18 hP hS hl) (fun z3 h => ?_)
    refine k_aload_n X dX9_half_21 0 rfl ?_
    refine k_getR (t := 133) X fk_X9_57 (by rfl) (by decide) rfl dX9_half_22 ?_
    refine k_getI X fk_X9_240 kzC_133 rfl dX9_half_25 ?_
    refine k_if_ge (tgt := 34) X dX9_half_28 (by decide) h (fun h => ?_) (fun h => ?_)
    · refine k_aload_n X dX9_half_34 0 rfl ?_
      refine k_getR (t := 133) X fk_X9_57 (by rfl) (by decide) rfl dX9_half_35 ?_
      refine k_aload_n X dX9_half_38 0 rfl ?_
      refine k_getR (t := 86) X fk_X9_43 (by rfl) (by decide) rfl dX9_half_39 ?_
      refine k_getR (t := 88) X fk_X9_164 kzC_86 (by decide) rfl dX9_half_42 ?_
      refine k_afterP (st := []) (fun H locs ls hP hS hl => k_runV (As := [.ref (ad 88)]) X lk_X9_249 rfl yo_X7_isHalf rfl (kR_ok (by decide) (by decide)) (ct_X7_isHalf (kCx_j X) 133 kzC_133 88 kzC_88 _ _ h) kzC_133 rfl (Nat.le_of_ble_eq_true rfl) dX9_half_45 hP hS hl) (fun v4 h => ?_)
      refine k_if_eq (tgt := 55) X dX9_half_48 (by decide) h (fun h => ?_) (fun h => ?_)
      · refine k_iconst X dX9_half_55 ?_
        exact k_iret X hrt hlk dX9_half_56 h
      · refine k_iconst X dX9_half_51 ?_
        refine k_goto (tgt := 56) X dX9_half_52 (by decide) ?_
        exact k_iret X hrt hlk dX9_half_56 h
    · refine k_bipush X dX9_half_31 (by decide +kernel) ?_
      exact k_iret X hrt hlk dX9_half_33 h
  · refine k_iconst X dX9_half_9 ?_
    exact k_iret X hrt hlk dX9_half_10 h
set_option maxHeartbeats 4000000 in
set_option maxRecDepth 100000 in
theorem ct_X9_image {l : Launch} {D : va_G} {cA : Nat → ClassId} {ad sa : Nat → Nat} (hj : kInj NC ad)  (z : Hp) (Kp : Int → Hp → Prop) (h : cal_X9_image  z Kp) : kMet l yX9_image cX9_image 1 (some .int) 2 NC kdC D cA ad sa [.ref (ad 0)] z (kQi NC kdC D cA ad Kp) := by
  unfold cal_X9_image at h
  refine k_met (cc := cX9_image) (own := RX9) (nL := 1) rfl rfl (Nat.le_of_ble_eq_true rfl) hj kltC (fun p e s m below meth c X hrt hlk => ?_)
  refine k_sub (lv' := [(0, .ref (ad 0))]) [0] rfl ?_
  refine k_aload_n X dX9_image_0 0 rfl ?_
  refine k_getR (t := 41) X fk_X9_18 (by rfl) (by decide) rfl dX9_image_1 ?_
  refine k_aload_n X dX9_image_4 0 rfl ?_
  refine k_getR (t := 1) X fk_X9_14 (by rfl) (by decide) rfl dX9_image_5 ?_
  refine k_afterV (st := []) (fun H locs ls hP hS hl => k_runV (As := [.ref (ad 1)]) X lk_X9_331 rfl yo_X0_copyFrom rfl (kR_ok (by decide) (by decide)) (ct_X0_copyFrom (kCx_j X) 41 kzC_41 1 kzC_1 _ _ h) kzC_41 rfl (Nat.le_of_ble_eq_true rfl) dX9_image_8 hP hS hl) (fun z1 h => ?_)
  refine k_aload_n X dX9_image_11 0 rfl ?_
  refine k_iconst X dX9_image_12 ?_
  refine k_putZ X fp_X9_335 (by rfl) rfl (Or.inr rfl) dX9_image_13 (k_nameH h (fun z2 h => ?_))
  refine k_aload_n X dX9_image_16 0 rfl ?_
  refine k_getR (t := 1) X fk_X9_14 (by rfl) (by decide) rfl dX9_image_17 ?_
  refine k_getI X fk_X9_109 kzC_1 rfl dX9_image_20 ?_
  exact k_iret X hrt hlk dX9_image_23 h
set_option maxHeartbeats 4000000 in
set_option maxRecDepth 100000 in
theorem ct_X9_isLinkPart {l : Launch} {D : va_G} {cA : Nat → ClassId} {ad sa : Nat → Nat} (hj : kInj NC ad) (a1 : Int) (a2 : Int) (z : Hp) (Kp : Int → Prop) (h : cal_X9_isLinkPart a1 a2 z Kp) : kMet l yX9_isLinkPart cX9_isLinkPart 2 (some .boolean) 0 NC kdC D cA ad sa [kI a1, kI a2] z (kQi NC kdC D cA ad (fun v z1 => z1 = z ∧ Kp v)) := by
  unfold cal_X9_isLinkPart at h
  refine k_met (cc := cX9_isLinkPart) (own := RX9) (nL := 2) rfl rfl (Nat.le_of_ble_eq_true rfl) hj kltC (fun p e s m below meth c X hrt hlk => ?_)
  refine k_sub (lv' := [(0, kI a1), (1, kI a2)]) [0, 1] rfl ?_
  refine k_iload_n X dX9_isLinkPart_0 0 rfl ?_
  refine k_if_lt (tgt := 23) X dX9_isLinkPart_1 (by decide) h (fun h => ?_) (fun h => ?_)
  · refine k_iconst X dX9_isLinkPart_23 ?_
    exact k_zret X hrt hlk dX9_isLinkPart_24 ⟨Or.inl rfl, ⟨rfl, h⟩⟩
  · refine k_iload_n X dX9_isLinkPart_4 0 rfl ?_
    refine k_bipush X dX9_isLinkPart_5 (by decide +kernel) ?_
    refine k_icmp_ge (tgt := 23) X dX9_isLinkPart_7 (by decide) ⟨h.1, ⟨by decide, by decide⟩, h.2⟩ (fun h => ?_) (fun h => ?_)
    · refine k_iconst X dX9_isLinkPart_23 ?_
      exact k_zret X hrt hlk dX9_isLinkPart_24 ⟨Or.inl rfl, ⟨rfl, h⟩⟩
    · refine k_iload_n X dX9_isLinkPart_10 1 rfl ?_
      refine k_if_lt (tgt := 23) X dX9_isLinkPart_11 (by decide) h (fun h => ?_) (fun h => ?_)
      · refine k_iconst X dX9_isLinkPart_23 ?_
        exact k_zret X hrt hlk dX9_isLinkPart_24 ⟨Or.inl rfl, ⟨rfl, h⟩⟩
      · refine k_iload_n X dX9_isLinkPart_14 1 rfl ?_
        refine k_iconst X dX9_isLinkPart_15 ?_
        refine k_icmp_gt (tgt := 23) X dX9_isLinkPart_16 (by decide) ⟨h.1, ⟨by decide, by decide⟩, h.2⟩ (fun h => ?_) (fun h => ?_)
        · refine k_iconst X dX9_isLinkPart_23 ?_
          exact k_zret X hrt hlk dX9_isLinkPart_24 ⟨Or.inl rfl, ⟨rfl, h⟩⟩
        · refine k_iconst X dX9_isLinkPart_19 ?_
          refine k_goto (tgt := 24) X dX9_isLinkPart_20 (by decide) ?_
          exact k_zret X hrt hlk dX9_isLinkPart_24 ⟨Or.inr rfl, ⟨rfl, h⟩⟩
set_option maxHeartbeats 4000000 in
set_option maxRecDepth 100000 in
theorem ct_X9_isSex {l : Launch} {D : va_G} {cA : Nat → ClassId} {ad sa : Nat → Nat} (hj : kInj NC ad) (a1 : Int) (z : Hp) (Kp : Int → Prop) (h : cal_X9_isSex a1 z Kp) : kMet l yX9_isSex cX9_isSex 1 (some .boolean) 0 NC kdC D cA ad sa [kI a1] z (kQi NC kdC D cA ad (fun v z1 => z1 = z ∧ Kp v)) := by
  unfold cal_X9_isSex at h
  refine k_met (cc := cX9_isSex) (own := RX9) (nL := 1) rfl rfl (Nat.le_of_ble_eq_true rfl) hj kltC (fun p e s m below meth c X hrt hlk => ?_)
  refine k_sub (lv' := [(0, kI a1)]) [0] rfl ?_
  refine k_iload_n X dX9_isSex_0 0 rfl ?_
  refine k_if_lt (tgt := 13) X dX9_isSex_1 (by decide) h (fun h => ?_) (fun h => ?_)
  · refine k_iconst X dX9_isSex_13 ?_
    exact k_zret X hrt hlk dX9_isSex_14 ⟨Or.inl rfl, ⟨rfl, h⟩⟩
  · refine k_iload_n X dX9_isSex_4 0 rfl ?_
    refine k_iconst X dX9_isSex_5 ?_
    refine k_icmp_gt (tgt := 13) X dX9_isSex_6 (by decide) ⟨h.1, ⟨by decide, by decide⟩, h.2⟩ (fun h => ?_) (fun h => ?_)
    · refine k_iconst X dX9_isSex_13 ?_
      exact k_zret X hrt hlk dX9_isSex_14 ⟨Or.inl rfl, ⟨rfl, h⟩⟩
    · refine k_iconst X dX9_isSex_9 ?_
      refine k_goto (tgt := 14) X dX9_isSex_10 (by decide) ?_
      exact k_zret X hrt hlk dX9_isSex_14 ⟨Or.inr rfl, ⟨rfl, h⟩⟩
set_option maxHeartbeats 4000000 in
set_option maxRecDepth 100000 in
theorem ct_X9_judge {l : Launch} {D : va_G} {cA : Nat → ClassId} {ad sa : Nat → Nat} (hj : kInj NC ad) (a1 : Int) (a2 : Int) (z : Hp) (Kp : Int → Hp → Prop) (h : cal_X9_judge a1 a2 z Kp) : kMet l yX9_judge cX9_judge 4 (some .int) 6 NC kdC D cA ad sa [.ref (ad 0), kI a1, kI a2] z (kQi NC kdC D cA ad Kp) := by
  unfold cal_X9_judge at h
  refine k_met (cc := cX9_judge) (own := RX9) (nL := 4) rfl rfl (Nat.le_of_ble_eq_true rfl) hj kltC (fun p e s m below meth c X hrt hlk => ?_)
  refine k_sub (lv' := [(0, .ref (ad 0)), (1, kI a1), (2, kI a2)]) [0, 1, 2] rfl ?_
  refine k_aload_n X dX9_judge_0 0 rfl ?_
  refine k_getR (t := 136) X fk_X9_64 (by rfl) (by decide) rfl dX9_judge_1 ?_
  refine k_iload_n X dX9_judge_4 1 rfl ?_
  refine k_afterP (st := []) (fun H locs ls hP hS hl => k_runV (As := [kI a1]) X lk_X9_315 rfl yo_X2_isList rfl (kR_ok (by decide) (by decide)) (ct_X2_isList (kCx_j X) 136 kzC_136 _ _ _ h) kzC_136 rfl (Nat.le_of_ble_eq_true rfl) dX9_judge_5 hP hS hl) (fun v1 h => ?_)
  refine k_if_ne (tgt := 13) X dX9_judge_8 (by decide) h (fun h => ?_) (fun h => ?_)
  · refine k_aload_n X dX9_judge_13 0 rfl ?_
    refine k_getR (t := 136) X fk_X9_64 (by rfl) (by decide) rfl dX9_judge_14 ?_
    refine k_getR (t := 142) X fk_X9_321 kzC_136 (by decide) rfl dX9_judge_17 ?_
    refine k_iload_n X dX9_judge_20 1 rfl ?_
    refine k_iald X kzC_142 (Nat.le_of_ble_eq_true rfl) dX9_judge_21 h (fun h => ?_)
    refine k_if_ge (tgt := 28) X dX9_judge_22 (by decide) h (fun h => ?_) (fun h => ?_)
    · refine k_aload_n X dX9_judge_28 0 rfl ?_
      refine k_afterV (st := []) (fun H locs ls hP hS hl => k_runV (As := []) X lk_X9_161 rfl yo_X9_settle rfl (kR_ok (by decide) (by decide)) (ct_X9_settle (kCx_j X)  _ _ h) (by rfl) rfl (Nat.le_of_ble_eq_true rfl) dX9_judge_29 hP hS hl) (fun z2 h => ?_)
      refine k_iconst X dX9_judge_32 ?_
      refine k_istore_n X dX9_judge_33 h (fun v3 => [(3, kI v3), (0, .ref (ad 0)), (1, kI a1), (2, kI a2)]) (by decide) (fun _ => rfl) (fun v3 h => ?_)
      refine k_sub (lv' := [(0, .ref (ad 0)), (1, kI a1), (2, kI a2), (3, kI v3)]) [1, 2, 3, 0] rfl ?_
      refine h (fun v5 => kAt p l e (kR 6) s m ([.ref (ad 0), kI a1, kI a2] : List Value).toArray below meth c (MQ below (kQi NC kdC D cA ad Kp) ([.ref (ad 0), kI a1, kI a2] : List Value).toArray s 0 0 (kA NC ad)) 4 NC kdC D cA ad 34 [(0, .ref (ad 0)), (1, kI a1), (2, kI a2), (3, kI v5)] [] z2) (fun v5 h => ?_)
      refine k_iload_n X dX9_judge_34 3 rfl ?_
      refine k_aload_n X dX9_judge_35 0 rfl ?_
      refine k_getR (t := 86) X fk_X9_43 (by rfl) (by decide) rfl dX9_judge_36 ?_
      refine k_getR (t := 88) X fk_X9_164 kzC_86 (by decide) rfl dX9_judge_39 ?_
      refine k_getI X fk_X9_300 kzC_88 rfl dX9_judge_42 ?_
      refine k_icmp_ge (tgt := 99) X dX9_judge_45 (by decide) h (fun h => ?_) (fun h => ?_)
      · refine k_bipush X dX9_judge_99 (by decide +kernel) ?_
        exact k_iret X hrt hlk dX9_judge_101 h
      · refine k_aload_n X dX9_judge_48 0 rfl ?_
        refine k_getR (t := 136) X fk_X9_64 (by rfl) (by decide) rfl dX9_judge_49 ?_
        refine k_iload_n X dX9_judge_52 1 rfl ?_
        refine k_iload_n X dX9_judge_53 2 rfl ?_
        refine k_iload_n X dX9_judge_54 3 rfl ?_
        refine k_afterP (st := []) (fun H locs ls hP hS hl => k_runV (As := [kI a1, kI a2, kI v5]) X lk_X9_324 rfl yo_X2_hasPlace rfl (kR_ok (by decide) (by decide)) (ct_X2_hasPlace (kCx_j X) 136 kzC_136 _ _ _ _ _ h) kzC_136 rfl (Nat.le_of_ble_eq_true rfl) dX9_judge_55 hP hS hl) (fun v6 h => ?_)
        refine k_if_ne (tgt := 66) X dX9_judge_58 (by decide) h (fun h => ?_) (fun h => ?_)
        · refine k_aload_n X dX9_judge_66 0 rfl ?_
          refine k_getR (t := 136) X fk_X9_64 (by rfl) (by decide) rfl dX9_judge_67 ?_
          refine k_getR (t := 137) X fk_X9_327 kzC_136 (by decide) rfl dX9_judge_70 ?_
          refine k_iload_n X dX9_judge_73 1 rfl ?_
          have hb7 := h.1
          refine k_aald X kzC_137 rfl rfl (Nat.le_of_ble_eq_true rfl) dX9_judge_74 h (fun h => ?_)
          refine k_iload_n X dX9_judge_75 2 rfl ?_
          refine k_iload_n X dX9_judge_76 3 rfl ?_
          refine k_iadd X dX9_judge_77 ?_
          refine k_iald X (kc_r3 kzC_137 (ki_lt hb7)) (Nat.le_of_ble_eq_true rfl) dX9_judge_78 h (fun h => ?_)
          refine k_aload_n X dX9_judge_79 0 rfl ?_
          refine k_getR (t := 86) X fk_X9_43 (by rfl) (by decide) rfl dX9_judge_80 ?_
          refine k_getR (t := 108) X fk_X9_303 kzC_86 (by decide) rfl dX9_judge_83 ?_
          refine k_iload_n X dX9_judge_86 3 rfl ?_
          refine k_iald X kzC_108 (Nat.le_of_ble_eq_true rfl) dX9_judge_87 h (fun h => ?_)
          refine k_icmp_eq (tgt := 93) X dX9_judge_88 (by decide) h (fun h => ?_) (fun h => ?_)
          · refine k_iinc X dX9_judge_93 3 rfl h (fun v8 => [(3, kI v8), (0, .ref (ad 0)), (1, kI a1), (2, kI a2)]) (by decide) (fun _ => rfl) (fun v8 h => ?_)
            refine k_goto (tgt := 34) X dX9_judge_96 (by decide) ?_
            exact k_sub [1, 2, 3, 0] rfl h
          · refine k_iload_n X dX9_judge_91 3 rfl ?_
            exact k_iret X hrt hlk dX9_judge_92 h
        · refine k_bipush X dX9_judge_61 (by decide +kernel) ?_
          refine k_iload_n X dX9_judge_63 3 rfl ?_
          refine k_iadd X dX9_judge_64 ?_
          exact k_iret X hrt hlk dX9_judge_65 h
    · refine k_bipush X dX9_judge_25 (by decide +kernel) ?_
      exact k_iret X hrt hlk dX9_judge_27 h
  · refine k_iconst X dX9_judge_11 ?_
    exact k_iret X hrt hlk dX9_judge_12 h
set_option maxHeartbeats 4000000 in
set_option maxRecDepth 100000 in
theorem ct_X9_kin {l : Launch} {D : va_G} {cA : Nat → ClassId} {ad sa : Nat → Nat} (hj : kInj NC ad) (a1 : Int) (a2 : Int) (z : Hp) (Kp : Int → Hp → Prop) (h : cal_X9_kin a1 a2 z Kp) : kMet l yX9_kin cX9_kin 3 (some .int) 6 NC kdC D cA ad sa [.ref (ad 0), kI a1, kI a2] z (kQi NC kdC D cA ad Kp) := by
  unfold cal_X9_kin at h
  refine k_met (cc := cX9_kin) (own := RX9) (nL := 3) rfl rfl (Nat.le_of_ble_eq_true rfl) hj kltC (fun p e s m below meth c X hrt hlk => ?_)
  refine k_sub (lv' := [(0, .ref (ad 0)), (1, kI a1), (2, kI a2)]) [0, 1, 2] rfl ?_
  refine k_aload_n X dX9_kin_0 0 rfl ?_
  refine k_iload_n X dX9_kin_1 1 rfl ?_
  refine k_iload_n X dX9_kin_2 2 rfl ?_
  refine k_afterP (st := []) (fun H locs ls hP hS hl => k_runV (As := [kI a1, kI a2]) X lk_X9_220 rfl yo_X9_arePersons rfl (kR_ok (by decide) (by decide)) (ct_X9_arePersons (kCx_j X) _ _ _ _ h) (by rfl) rfl (Nat.le_of_ble_eq_true rfl) dX9_kin_3 hP hS hl) (fun v1 h => ?_)
  refine k_if_ne (tgt := 11) X dX9_kin_6 (by decide) h (fun h => ?_) (fun h => ?_)
  · refine k_aload_n X dX9_kin_11 0 rfl ?_
    refine k_afterV (st := []) (fun H locs ls hP hS hl => k_runV (As := []) X lk_X9_161 rfl yo_X9_settle rfl (kR_ok (by decide) (by decide)) (ct_X9_settle (kCx_j X)  _ _ h) (by rfl) rfl (Nat.le_of_ble_eq_true rfl) dX9_kin_12 hP hS hl) (fun z2 h => ?_)
    refine k_aload_n X dX9_kin_15 0 rfl ?_
    refine k_iload_n X dX9_kin_16 1 rfl ?_
    refine k_iload_n X dX9_kin_17 2 rfl ?_
    refine k_afterV (st := []) (fun H locs ls hP hS hl => k_runV (As := [kI a1, kI a2]) X lk_X9_237 rfl yo_X9_seekWays rfl (kR_ok (by decide) (by decide)) (ct_X9_seekWays (kCx_j X) _ _ _ _ h) (by rfl) rfl (Nat.le_of_ble_eq_true rfl) dX9_kin_18 hP hS hl) (fun z3 h => ?_)
    refine k_aload_n X dX9_kin_21 0 rfl ?_
    refine k_getR (t := 133) X fk_X9_57 (by rfl) (by decide) rfl dX9_kin_22 ?_
    refine k_getI X fk_X9_240 kzC_133 rfl dX9_kin_25 ?_
    refine k_if_ge (tgt := 36) X dX9_kin_28 (by decide) h (fun h => ?_) (fun h => ?_)
    · refine k_bipush X dX9_kin_36 (by decide +kernel) ?_
      refine k_aload_n X dX9_kin_38 0 rfl ?_
      refine k_getR (t := 133) X fk_X9_57 (by rfl) (by decide) rfl dX9_kin_39 ?_
      refine k_getI X fk_X9_243 kzC_133 rfl dX9_kin_42 ?_
      refine k_imul X dX9_kin_45 ?_
      refine k_aload_n X dX9_kin_46 0 rfl ?_
      refine k_getR (t := 133) X fk_X9_57 (by rfl) (by decide) rfl dX9_kin_47 ?_
      refine k_getI X fk_X9_246 kzC_133 rfl dX9_kin_50 ?_
      refine k_iadd X dX9_kin_53 ?_
      exact k_iret X hrt hlk dX9_kin_54 h
    · refine k_bipush X dX9_kin_31 (by decide +kernel) ?_
      refine k_goto (tgt := 54) X dX9_kin_33 (by decide) ?_
      exact k_iret X hrt hlk dX9_kin_54 h
  · refine k_iconst X dX9_kin_9 ?_
    exact k_iret X hrt hlk dX9_kin_10 h
set_option maxHeartbeats 4000000 in
set_option maxRecDepth 100000 in
theorem ct_X9_lay {l : Launch} {D : va_G} {cA : Nat → ClassId} {ad sa : Nat → Nat} (hj : kInj NC ad) (a1 : Int) (a2 : Int) (z : Hp) (Kp : Int → Hp → Prop) (h : cal_X9_lay a1 a2 z Kp) : kMet l yX9_lay cX9_lay 4 (some .int) 6 NC kdC D cA ad sa [.ref (ad 0), kI a1, kI a2] z (kQi NC kdC D cA ad Kp) := by
  unfold cal_X9_lay at h
  refine k_met (cc := cX9_lay) (own := RX9) (nL := 4) rfl rfl (Nat.le_of_ble_eq_true rfl) hj kltC (fun p e s m below meth c X hrt hlk => ?_)
  refine k_sub (lv' := [(0, .ref (ad 0)), (1, kI a1), (2, kI a2)]) [0, 1, 2] rfl ?_
  refine k_aload_n X dX9_lay_0 0 rfl ?_
  refine k_getR (t := 136) X fk_X9_64 (by rfl) (by decide) rfl dX9_lay_1 ?_
  refine k_iload_n X dX9_lay_4 1 rfl ?_
  refine k_afterP (st := []) (fun H locs ls hP hS hl => k_runV (As := [kI a1]) X lk_X9_315 rfl yo_X2_isList rfl (kR_ok (by decide) (by decide)) (ct_X2_isList (kCx_j X) 136 kzC_136 _ _ _ h) kzC_136 rfl (Nat.le_of_ble_eq_true rfl) dX9_lay_5 hP hS hl) (fun v1 h => ?_)
  refine k_if_ne (tgt := 13) X dX9_lay_8 (by decide) h (fun h => ?_) (fun h => ?_)
  · refine k_aload_n X dX9_lay_13 0 rfl ?_
    refine k_getR (t := 136) X fk_X9_64 (by rfl) (by decide) rfl dX9_lay_14 ?_
    refine k_getR (t := 142) X fk_X9_321 kzC_136 (by decide) rfl dX9_lay_17 ?_
    refine k_iload_n X dX9_lay_20 1 rfl ?_
    refine k_iald X kzC_142 (Nat.le_of_ble_eq_true rfl) dX9_lay_21 h (fun h => ?_)
    refine k_if_ge (tgt := 28) X dX9_lay_22 (by decide) h (fun h => ?_) (fun h => ?_)
    · refine k_aload_n X dX9_lay_28 0 rfl ?_
      refine k_afterV (st := []) (fun H locs ls hP hS hl => k_runV (As := []) X lk_X9_161 rfl yo_X9_settle rfl (kR_ok (by decide) (by decide)) (ct_X9_settle (kCx_j X)  _ _ h) (by rfl) rfl (Nat.le_of_ble_eq_true rfl) dX9_lay_29 hP hS hl) (fun z2 h => ?_)
      refine k_iconst X dX9_lay_32 ?_
      refine k_istore_n X dX9_lay_33 h (fun v3 => [(3, kI v3), (0, .ref (ad 0)), (1, kI a1), (2, kI a2)]) (by decide) (fun _ => rfl) (fun v3 h => ?_)
      refine k_sub (lv' := [(0, .ref (ad 0)), (1, kI a1), (2, kI a2), (3, kI v3)]) [1, 2, 3, 0] rfl ?_
      refine h (fun v5 z6 => kAt p l e (kR 6) s m ([.ref (ad 0), kI a1, kI a2] : List Value).toArray below meth c (MQ below (kQi NC kdC D cA ad Kp) ([.ref (ad 0), kI a1, kI a2] : List Value).toArray s 0 0 (kA NC ad)) 4 NC kdC D cA ad 34 [(0, .ref (ad 0)), (1, kI a1), (2, kI a2), (3, kI v5)] [] z6) (fun v5 z6 h => ?_)
      refine k_iload_n X dX9_lay_34 3 rfl ?_
      refine k_aload_n X dX9_lay_35 0 rfl ?_
      refine k_getR (t := 86) X fk_X9_43 (by rfl) (by decide) rfl dX9_lay_36 ?_
      refine k_getR (t := 88) X fk_X9_164 kzC_86 (by decide) rfl dX9_lay_39 ?_
      refine k_getI X fk_X9_300 kzC_88 rfl dX9_lay_42 ?_
      refine k_icmp_ge (tgt := 92) X dX9_lay_45 (by decide) h (fun h => ?_) (fun h => ?_)
      · refine k_aload_n X dX9_lay_92 0 rfl ?_
        refine k_getR (t := 86) X fk_X9_43 (by rfl) (by decide) rfl dX9_lay_93 ?_
        refine k_getR (t := 88) X fk_X9_164 kzC_86 (by decide) rfl dX9_lay_96 ?_
        refine k_getI X fk_X9_300 kzC_88 rfl dX9_lay_99 ?_
        exact k_iret X hrt hlk dX9_lay_102 h
      · refine k_aload_n X dX9_lay_48 0 rfl ?_
        refine k_getR (t := 136) X fk_X9_64 (by rfl) (by decide) rfl dX9_lay_49 ?_
        refine k_iload_n X dX9_lay_52 1 rfl ?_
        refine k_iload_n X dX9_lay_53 2 rfl ?_
        refine k_iload_n X dX9_lay_54 3 rfl ?_
        refine k_afterP (st := []) (fun H locs ls hP hS hl => k_runV (As := [kI a1, kI a2, kI v5]) X lk_X9_324 rfl yo_X2_hasPlace rfl (kR_ok (by decide) (by decide)) (ct_X2_hasPlace (kCx_j X) 136 kzC_136 _ _ _ _ _ h) kzC_136 rfl (Nat.le_of_ble_eq_true rfl) dX9_lay_55 hP hS hl) (fun v7 h => ?_)
        refine k_if_ne (tgt := 64) X dX9_lay_58 (by decide) h (fun h => ?_) (fun h => ?_)
        · refine k_aload_n X dX9_lay_64 0 rfl ?_
          refine k_getR (t := 136) X fk_X9_64 (by rfl) (by decide) rfl dX9_lay_65 ?_
          refine k_getR (t := 137) X fk_X9_327 kzC_136 (by decide) rfl dX9_lay_68 ?_
          refine k_iload_n X dX9_lay_71 1 rfl ?_
          have hb8 := h.1
          refine k_aald X kzC_137 rfl rfl (Nat.le_of_ble_eq_true rfl) dX9_lay_72 h (fun h => ?_)
          refine k_iload_n X dX9_lay_73 2 rfl ?_
          refine k_iload_n X dX9_lay_74 3 rfl ?_
          refine k_iadd X dX9_lay_75 ?_
          refine k_aload_n X dX9_lay_76 0 rfl ?_
          refine k_getR (t := 86) X fk_X9_43 (by rfl) (by decide) rfl dX9_lay_77 ?_
          refine k_getR (t := 108) X fk_X9_303 kzC_86 (by decide) rfl dX9_lay_80 ?_
          refine k_iload_n X dX9_lay_83 3 rfl ?_
          refine k_iald X kzC_108 (Nat.le_of_ble_eq_true rfl) dX9_lay_84 h (fun h => ?_)
          refine k_iast X (kc_r3 kzC_137 (ki_lt hb8)) (Nat.le_of_ble_eq_true rfl) dX9_lay_85 h (fun h => k_nameH h (fun z9 h => ?_))
          refine k_iinc X dX9_lay_86 3 rfl h (fun v10 => [(3, kI v10), (0, .ref (ad 0)), (1, kI a1), (2, kI a2)]) (by decide) (fun _ => rfl) (fun v10 h => ?_)
          refine k_goto (tgt := 34) X dX9_lay_89 (by decide) ?_
          exact k_sub [1, 2, 3, 0] rfl h
        · refine k_bipush X dX9_lay_61 (by decide +kernel) ?_
          exact k_iret X hrt hlk dX9_lay_63 h
    · refine k_bipush X dX9_lay_25 (by decide +kernel) ?_
      exact k_iret X hrt hlk dX9_lay_27 h
  · refine k_iconst X dX9_lay_11 ?_
    exact k_iret X hrt hlk dX9_lay_12 h
