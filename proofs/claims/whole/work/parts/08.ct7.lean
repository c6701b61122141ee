set_option maxHeartbeats 4000000 in
set_option maxRecDepth 100000 in
theorem ct_X9_list {l : Launch} {D : va_G} {cA : Nat → ClassId} {ad sa : Nat → Nat} (hj : kInj NC ad) (a1 : Int) (a2 : Int) (z : Hp) (Kp : Int → Hp → Prop) (h : cal_X9_list a1 a2 z Kp) : kMet l yX9_list cX9_list 3 (some .int) 1 NC kdC D cA ad sa [.ref (ad 0), kI a1, kI a2] z (kQi NC kdC D cA ad Kp) := by
  unfold cal_X9_list at h
  refine k_met (cc := cX9_list) (own := RX9) (nL := 3) rfl rfl (Nat.le_of_ble_eq_true rfl) hj kltC (fun p e s m below meth c X hrt hlk => ?_)
  refine k_sub (lv' := [(0, .ref (ad 0)), (1, kI a1), (2, kI a2)]) [0, 1, 2] rfl ?_
  refine k_aload_n X dX9_list_0 0 rfl ?_
  refine k_getR (t := 136) X fk_X9_64 (by rfl) (by decide) rfl dX9_list_1 ?_
  refine k_iload_n X dX9_list_4 1 rfl ?_
  refine k_afterP (st := []) (fun H locs ls hP hS hl => k_runV (As := [kI a1]) X lk_X9_315 rfl yo_X2_isList rfl (kR_ok (by decide) (by decide)) (ct_X2_isList (kCx_j X) 136 kzC_136 _ _ _ h) kzC_136 rfl (Nat.le_of_ble_eq_true rfl) dX9_list_5 hP hS hl) (fun v1 h => ?_)
  refine k_if_ne (tgt := 13) X dX9_list_8 (by decide) h (fun h => ?_) (fun h => ?_)
  · refine k_iload_n X dX9_list_13 2 rfl ?_
    refine k_bipush X dX9_list_14 (by decide +kernel) ?_
    refine k_icmp_le (tgt := 22) X dX9_list_16 (by decide) ⟨h.1, ⟨by decide, by decide⟩, h.2⟩ (fun h => ?_) (fun h => ?_)
    · refine k_iload_n X dX9_list_22 2 rfl ?_
      refine k_if_ge (tgt := 29) X dX9_list_23 (by decide) h (fun h => ?_) (fun h => ?_)
      · refine k_aload_n X dX9_list_29 0 rfl ?_
        refine k_getR (t := 136) X fk_X9_64 (by rfl) (by decide) rfl dX9_list_30 ?_
        refine k_iload_n X dX9_list_33 1 rfl ?_
        refine k_iload_n X dX9_list_34 2 rfl ?_
        refine k_afterV (st := []) (fun H locs ls hP hS hl => k_runV (As := [kI a1, kI a2]) X lk_X9_318 rfl yo_X2_begin rfl (kR_ok (by decide) (by decide)) (ct_X2_begin (kCx_j X) 136 kzC_136 _ _ _ _ h) kzC_136 rfl (Nat.le_of_ble_eq_true rfl) dX9_list_35 hP hS hl) (fun z2 h => ?_)
        refine k_iconst X dX9_list_38 ?_
        exact k_iret X hrt hlk dX9_list_39 h
      · refine k_bipush X dX9_list_26 (by decide +kernel) ?_
        exact k_iret X hrt hlk dX9_list_28 h
    · refine k_bipush X dX9_list_19 (by decide +kernel) ?_
      exact k_iret X hrt hlk dX9_list_21 h
  · refine k_iconst X dX9_list_11 ?_
    exact k_iret X hrt hlk dX9_list_12 h
set_option maxHeartbeats 4000000 in
set_option maxRecDepth 100000 in
theorem ct_X9_unsettle {l : Launch} {D : va_G} {cA : Nat → ClassId} {ad sa : Nat → Nat} (hj : kInj NC ad)  (z : Hp) (Kp : Hp → Prop) (h : cal_X9_unsettle  z Kp) : kMet l yX9_unsettle cX9_unsettle 1 none 0 NC kdC D cA ad sa [.ref (ad 0)] z (kQv NC kdC D cA ad Kp) := by
  unfold cal_X9_unsettle at h
  refine k_met (cc := cX9_unsettle) (own := RX9) (nL := 1) rfl rfl (Nat.le_of_ble_eq_true rfl) hj kltC (fun p e s m below meth c X hrt hlk => ?_)
  refine k_sub (lv' := [(0, .ref (ad 0))]) [0] rfl ?_
  refine k_aload_n X dX9_unsettle_0 0 rfl ?_
  refine k_iconst X dX9_unsettle_1 ?_
  refine k_putZ X fp_X9_339 (by rfl) rfl (Or.inl rfl) dX9_unsettle_2 (k_nameH h (fun z1 h => ?_))
  refine k_aload_n X dX9_unsettle_5 0 rfl ?_
  refine k_iconst X dX9_unsettle_6 ?_
  refine k_putZ X fp_X9_342 (by rfl) rfl (Or.inl rfl) dX9_unsettle_7 (k_nameH h (fun z2 h => ?_))
  exact k_vret X hrt hlk dX9_unsettle_10 h
set_option maxHeartbeats 4000000 in
set_option maxRecDepth 100000 in
theorem ct_X9_live {l : Launch} {D : va_G} {cA : Nat → ClassId} {ad sa : Nat → Nat} (hj : kInj NC ad) (a1 : Int) (a2 : Int) (z : Hp) (Kp : Int → Hp → Prop) (h : cal_X9_live a1 a2 z Kp) : kMet l yX9_live cX9_live 4 (some .int) 1 NC kdC D cA ad sa [.ref (ad 0), kI a1, kI a2] z (kQi NC kdC D cA ad Kp) := by
  unfold cal_X9_live at h
  refine k_met (cc := cX9_live) (own := RX9) (nL := 4) rfl rfl (Nat.le_of_ble_eq_true rfl) hj kltC (fun p e s m below meth c X hrt hlk => ?_)
  refine k_sub (lv' := [(0, .ref (ad 0)), (1, kI a1), (2, kI a2)]) [0, 1, 2] rfl ?_
  refine k_aload_n X dX9_live_0 0 rfl ?_
  refine k_getR (t := 1) X fk_X9_14 (by rfl) (by decide) rfl dX9_live_1 ?_
  refine k_iload_n X dX9_live_4 1 rfl ?_
  refine k_afterP (st := []) (fun H locs ls hP hS hl => k_runV (As := [kI a1]) X lk_X9_123 rfl yo_X0_isStatement rfl (kR_ok (by decide) (by decide)) (ct_X0_isStatement (kCx_j X) 1 kzC_1 _ _ _ h) kzC_1 rfl (Nat.le_of_ble_eq_true rfl) dX9_live_5 hP hS hl) (fun v1 h => ?_)
  refine k_if_eq (tgt := 18) X dX9_live_8 (by decide) h (fun h => ?_) (fun h => ?_)
  · refine k_iconst X dX9_live_18 ?_
    exact k_iret X hrt hlk dX9_live_19 h
  · refine k_iload_n X dX9_live_11 2 rfl ?_
    refine k_afterP (st := []) (fun H locs ls hP hS hl => k_runS (As := [kI a2]) X lk_X9_106 yo_X9_isFlag rfl (kR_ok (by decide) (by decide)) (ct_X9_isFlag (kCx_j X) _ _ _ h) (Nat.le_of_ble_eq_true rfl) dX9_live_12 hP hS hl) (fun v2 h => ?_)
    refine k_if_ne (tgt := 20) X dX9_live_15 (by decide) h (fun h => ?_) (fun h => ?_)
    · refine k_aload_n X dX9_live_20 0 rfl ?_
      refine k_getR (t := 1) X fk_X9_14 (by rfl) (by decide) rfl dX9_live_21 ?_
      refine k_getR (t := 40) X fk_X9_126 kzC_1 (by decide) rfl dX9_live_24 ?_
      refine k_iload_n X dX9_live_27 1 rfl ?_
      refine k_iald X kzC_40 (Nat.le_of_ble_eq_true rfl) dX9_live_28 h (fun h => ?_)
      refine k_istore_n X dX9_live_29 h (fun v3 => [(3, kI v3), (0, .ref (ad 0)), (1, kI a1), (2, kI a2)]) (by decide) (fun _ => rfl) (fun v3 h => ?_)
      refine k_aload_n X dX9_live_30 1 rfl ?_
      refine k_getR (t := 1) X fk_X9_14 (by rfl) (by decide) rfl dX9_live_31 ?_
      refine k_getR (t := 40) X fk_X9_126 kzC_1 (by decide) rfl dX9_live_34 ?_
      refine k_iload_n X dX9_live_37 2 rfl ?_
      refine k_iload_n X dX9_live_38 3 rfl ?_
      refine k_iast X kzC_40 (Nat.le_of_ble_eq_true rfl) dX9_live_39 h (fun h => k_nameH h (fun z4 h => ?_))
      refine k_aload_n X dX9_live_40 1 rfl ?_
      refine k_afterV (st := []) (fun H locs ls hP hS hl => k_runV (As := []) X lk_X9_97 rfl yo_X9_unsettle rfl (kR_ok (by decide) (by decide)) (ct_X9_unsettle (kCx_j X)  _ _ h) (by rfl) rfl (Nat.le_of_ble_eq_true rfl) dX9_live_41 hP hS hl) (fun z5 h => ?_)
      refine k_iload_n X dX9_live_44 0 rfl ?_
      exact k_iret X hrt hlk dX9_live_45 h
    · refine k_iconst X dX9_live_18 ?_
      exact k_iret X hrt hlk dX9_live_19 h
set_option maxHeartbeats 4000000 in
set_option maxRecDepth 100000 in
theorem ct_X9_name {l : Launch} {D : va_G} {cA : Nat → ClassId} {ad sa : Nat → Nat} (hj : kInj NC ad) (a1 : Int) (a2 : Int) (z : Hp) (Kp : Int → Prop) (h : cal_X9_name a1 a2 z Kp) : kMet l yX9_name cX9_name 4 (some .int) 1 NC kdC D cA ad sa [.ref (ad 0), kI a1, kI a2] z (kQi NC kdC D cA ad (fun v z1 => z1 = z ∧ Kp v)) := by
  unfold cal_X9_name at h
  refine k_met (cc := cX9_name) (own := RX9) (nL := 4) rfl rfl (Nat.le_of_ble_eq_true rfl) hj kltC (fun p e s m below meth c X hrt hlk => ?_)
  refine k_sub (lv' := [(0, .ref (ad 0)), (1, kI a1), (2, kI a2)]) [0, 1, 2] rfl ?_
  refine k_aload_n X dX9_name_0 0 rfl ?_
  refine k_getR (t := 1) X fk_X9_14 (by rfl) (by decide) rfl dX9_name_1 ?_
  refine k_iload_n X dX9_name_4 1 rfl ?_
  refine k_afterP (st := []) (fun H locs ls hP hS hl => k_runV (As := [kI a1]) X lk_X9_100 rfl yo_X0_isPerson rfl (kR_ok (by decide) (by decide)) (ct_X0_isPerson (kCx_j X) 1 kzC_1 _ _ _ h) kzC_1 rfl (Nat.le_of_ble_eq_true rfl) dX9_name_5 hP hS hl) (fun v1 h => ?_)
  refine k_if_ne (tgt := 13) X dX9_name_8 (by decide) h (fun h => ?_) (fun h => ?_)
  · refine k_aload_n X dX9_name_13 0 rfl ?_
    refine k_getR (t := 1) X fk_X9_14 (by rfl) (by decide) rfl dX9_name_14 ?_
    refine k_getR (t := 33) X fk_X9_147 kzC_1 (by decide) rfl dX9_name_17 ?_
    refine k_iload_n X dX9_name_20 1 rfl ?_
    refine k_iald X kzC_33 (Nat.le_of_ble_eq_true rfl) dX9_name_21 h (fun h => ?_)
    refine k_istore_n X dX9_name_22 h (fun v2 => [(3, kI v2), (0, .ref (ad 0)), (1, kI a1), (2, kI a2)]) (by decide) (fun _ => rfl) (fun v2 h => ?_)
    refine k_iload_n X dX9_name_23 3 rfl ?_
    refine k_iconst X dX9_name_24 ?_
    refine k_icmp_ne (tgt := 30) X dX9_name_25 (by decide) ⟨h.1, ⟨by decide, by decide⟩, h.2⟩ (fun h => ?_) (fun h => ?_)
    · refine k_iload_n X dX9_name_30 3 rfl ?_
      refine k_if_lt (tgt := 53) X dX9_name_31 (by decide) h (fun h => ?_) (fun h => ?_)
      · refine k_iconst X dX9_name_53 ?_
        exact k_iret X hrt hlk dX9_name_54 ⟨rfl, h⟩
      · refine k_iload_n X dX9_name_34 3 rfl ?_
        refine k_iload_n X dX9_name_35 0 rfl ?_
        refine k_icmp_ge (tgt := 53) X dX9_name_36 (by decide) h (fun h => ?_) (fun h => ?_)
        · refine k_iconst X dX9_name_53 ?_
          exact k_iret X hrt hlk dX9_name_54 ⟨rfl, h⟩
        · refine k_aload_n X dX9_name_39 1 rfl ?_
          refine k_getR (t := 1) X fk_X9_14 (by rfl) (by decide) rfl dX9_name_40 ?_
          refine k_getR (t := 2) X fk_X9_150 kzC_1 (by decide) rfl dX9_name_43 ?_
          refine k_iload_n X dX9_name_46 2 rfl ?_
          have hb3 := h.1
          refine k_aald X kzC_2 rfl rfl (Nat.le_of_ble_eq_true rfl) dX9_name_47 h (fun h => ?_)
          refine k_iload_n X dX9_name_48 3 rfl ?_
          refine k_bald X (kc_r2 kzC_2 (ki_lt hb3)) (Nat.le_of_ble_eq_true rfl) dX9_name_49 h (fun h => ?_)
          refine k_goto (tgt := 54) X dX9_name_50 (by decide) ?_
          exact k_iret X hrt hlk dX9_name_54 ⟨rfl, h⟩
    · refine k_iload_n X dX9_name_28 0 rfl ?_
      exact k_iret X hrt hlk dX9_name_29 ⟨rfl, h⟩
  · refine k_iconst X dX9_name_11 ?_
    exact k_iret X hrt hlk dX9_name_12 ⟨rfl, h⟩
set_option maxHeartbeats 4000000 in
set_option maxRecDepth 100000 in
theorem ct_X9_workOneMore {l : Launch} {D : va_G} {cA : Nat → ClassId} {ad sa : Nat → Nat} (hj : kInj NC ad)  (z : Hp) (Kp : Hp → Prop) (h : cal_X9_workOneMore  z Kp) : kMet l yX9_workOneMore cX9_workOneMore 1 none 5 NC kdC D cA ad sa [.ref (ad 0)] z (kQv NC kdC D cA ad Kp) := by
  unfold cal_X9_workOneMore at h
  refine k_met (cc := cX9_workOneMore) (own := RX9) (nL := 1) rfl rfl (Nat.le_of_ble_eq_true rfl) hj kltC (fun p e s m below meth c X hrt hlk => ?_)
  refine k_sub (lv' := [(0, .ref (ad 0))]) [0] rfl ?_
  refine k_aload_n X dX9_workOneMore_0 0 rfl ?_
  refine k_getR (t := 1) X fk_X9_14 (by rfl) (by decide) rfl dX9_workOneMore_1 ?_
  refine k_aload_n X dX9_workOneMore_4 0 rfl ?_
  refine k_getR (t := 1) X fk_X9_14 (by rfl) (by decide) rfl dX9_workOneMore_5 ?_
  refine k_getI X fk_X9_109 kzC_1 rfl dX9_workOneMore_8 ?_
  refine k_aload_n X dX9_workOneMore_11 0 rfl ?_
  refine k_getR (t := 85) X fk_X9_36 (by rfl) (by decide) rfl dX9_workOneMore_12 ?_
  refine k_iconst X dX9_workOneMore_15 ?_
  refine k_afterV (st := []) (fun H locs ls hP hS hl => k_runV (As := [kI (z 1 1), .ref (ad 85), kI 1]) X lk_X9_119 rfl yo_X0_write rfl (kR_ok (by decide) (by decide)) (ct_X0_write (kCx_j X) 1 kzC_1 _ 85 kzC_85 _ _ _ h) kzC_1 rfl (Nat.le_of_ble_eq_true rfl) dX9_workOneMore_16 hP hS hl) (fun z1 h => ?_)
  refine k_aload_n X dX9_workOneMore_19 0 rfl ?_
  refine k_getR (t := 109) X fk_X9_47 (by rfl) (by decide) rfl dX9_workOneMore_20 ?_
  refine k_aload_n X dX9_workOneMore_23 0 rfl ?_
  refine k_getR (t := 1) X fk_X9_14 (by rfl) (by decide) rfl dX9_workOneMore_24 ?_
  refine k_aload_n X dX9_workOneMore_27 0 rfl ?_
  refine k_getR (t := 1) X fk_X9_14 (by rfl) (by decide) rfl dX9_workOneMore_28 ?_
  refine k_getI X fk_X9_109 kzC_1 rfl dX9_workOneMore_31 ?_
  refine k_iconst X dX9_workOneMore_34 ?_
  refine k_iadd X dX9_workOneMore_35 ?_
  refine k_iconst X dX9_workOneMore_36 ?_
  refine k_bipush X dX9_workOneMore_37 (by decide +kernel) ?_
  refine k_afterV (st := []) (fun H locs ls hP hS hl => k_runV (As := [.ref (ad 1), kI ((z1 1 1) + 1), kI (-1), kI 125]) X lk_X9_346 rfl yo_X8_work rfl (kR_ok (by decide) (by decide)) (ct_X8_work (kCx_j X) 109 kzC_109 1 kzC_1 _ _ _ _ _ h) kzC_109 rfl (Nat.le_of_ble_eq_true rfl) dX9_workOneMore_39 hP hS hl) (fun z2 h => ?_)
  exact k_vret X hrt hlk dX9_workOneMore_42 h
set_option maxHeartbeats 4000000 in
set_option maxRecDepth 100000 in
theorem ct_X9_yearsBetween {l : Launch} {D : va_G} {cA : Nat → ClassId} {ad sa : Nat → Nat} (hj : kInj NC ad) (r1 : Nat) (hr1 : kdC r1 = (0, 7, 7)) (a2 : Int) (a3 : Int) (z : Hp) (Kp : Int → Prop) (h : cal_X9_yearsBetween r1 a2 a3 z Kp) : kMet l yX9_yearsBetween cX9_yearsBetween 4 (some .int) 1 NC kdC D cA ad sa [.ref (ad r1), kI a2, kI a3] z (kQi NC kdC D cA ad (fun v z1 => z1 = z ∧ Kp v)) := by
  unfold cal_X9_yearsBetween at h
  refine k_met (cc := cX9_yearsBetween) (own := RX9) (nL := 4) rfl rfl (Nat.le_of_ble_eq_true rfl) hj kltC (fun p e s m below meth c X hrt hlk => ?_)
  refine k_sub (lv' := [(0, .ref (ad r1)), (1, kI a2), (2, kI a3)]) [0, 1, 2] rfl ?_
  refine k_aload_n X dX9_yearsBetween_0 0 rfl ?_
  refine k_iload_n X dX9_yearsBetween_1 1 rfl ?_
  refine k_iload_n X dX9_yearsBetween_2 2 rfl ?_
  refine k_iconst X dX9_yearsBetween_3 ?_
  refine k_afterP (st := []) (fun H locs ls hP hS hl => k_runS (As := [.ref (ad r1), kI a2, kI a3, kI 0]) X lk_X9_190 yo_X9_personEnd rfl (kR_ok (by decide) (by decide)) (ct_X9_personEnd (kCx_j X) r1 hr1 _ _ _ _ _ h) (Nat.le_of_ble_eq_true rfl) dX9_yearsBetween_4 hP hS hl) (fun v1 h => ?_)
  refine k_istore_n X dX9_yearsBetween_7 h (fun v2 => [(3, kI v2), (0, .ref (ad r1)), (1, kI a2), (2, kI a3)]) (by decide) (fun _ => rfl) (fun v2 h => ?_)
  refine k_aload_n X dX9_yearsBetween_8 1 rfl ?_
  refine k_getR (t := r1 + 13) X fk_X9_181 hr1 (by decide) rfl dX9_yearsBetween_9 ?_
  refine k_getR (t := r1 + 13 + 1) X fk_X9_185 (kc_7_3 hr1) (by decide) rfl dX9_yearsBetween_12 ?_
  refine k_iload_n X dX9_yearsBetween_15 0 rfl ?_
  refine k_iconst X dX9_yearsBetween_16 ?_
  refine k_iadd X dX9_yearsBetween_17 ?_
  refine k_iald X (kc_3_0 (kc_7_3 hr1)) (Nat.le_of_ble_eq_true rfl) dX9_yearsBetween_18 h (fun h => ?_)
  refine k_aload_n X dX9_yearsBetween_19 1 rfl ?_
  refine k_getR (t := r1 + 13) X fk_X9_181 hr1 (by decide) rfl dX9_yearsBetween_20 ?_
  refine k_getR (t := r1 + 13 + 1) X fk_X9_185 (kc_7_3 hr1) (by decide) rfl dX9_yearsBetween_23 ?_
  refine k_iload_n X dX9_yearsBetween_26 0 rfl ?_
  refine k_iald X (kc_3_0 (kc_7_3 hr1)) (Nat.le_of_ble_eq_true rfl) dX9_yearsBetween_27 h (fun h => ?_)
  refine k_isub X dX9_yearsBetween_28 ?_
  exact k_iret X hrt hlk dX9_yearsBetween_29 ⟨rfl, h⟩
set_option maxHeartbeats 4000000 in
set_option maxRecDepth 100000 in
theorem ct_X9_narrows {l : Launch} {D : va_G} {cA : Nat → ClassId} {ad sa : Nat → Nat} (hj : kInj NC ad) (a1 : Int) (a2 : Int) (z : Hp) (Kp : Int → Hp → Prop) (h : cal_X9_narrows a1 a2 z Kp) : kMet l yX9_narrows cX9_narrows 4 (some .int) 6 NC kdC D cA ad sa [.ref (ad 0), kI a1, kI a2] z (kQi NC kdC D cA ad Kp) := by
  unfold cal_X9_narrows at h
  refine k_met (cc := cX9_narrows) (own := RX9) (nL := 4) rfl rfl (Nat.le_of_ble_eq_true rfl) hj kltC (fun p e s m below meth c X hrt hlk => ?_)
  refine k_sub (lv' := [(0, .ref (ad 0)), (1, kI a1), (2, kI a2)]) [0, 1, 2] rfl ?_
  refine k_aload_n X dX9_narrows_0 0 rfl ?_
  refine k_getR (t := 1) X fk_X9_14 (by rfl) (by decide) rfl dX9_narrows_1 ?_
  refine k_iload_n X dX9_narrows_4 1 rfl ?_
  refine k_afterP (st := []) (fun H locs ls hP hS hl => k_runV (As := [kI a1]) X lk_X9_100 rfl yo_X0_isPerson rfl (kR_ok (by decide) (by decide)) (ct_X0_isPerson (kCx_j X) 1 kzC_1 _ _ _ h) kzC_1 rfl (Nat.le_of_ble_eq_true rfl) dX9_narrows_5 hP hS hl) (fun v1 h => ?_)
  refine k_if_eq (tgt := 18) X dX9_narrows_8 (by decide) h (fun h => ?_) (fun h => ?_)
  · refine k_iconst X dX9_narrows_18 ?_
    exact k_iret X hrt hlk dX9_narrows_19 h
  · refine k_iload_n X dX9_narrows_11 2 rfl ?_
    refine k_afterP (st := []) (fun H locs ls hP hS hl => k_runS (As := [kI a2]) X lk_X9_106 yo_X9_isFlag rfl (kR_ok (by decide) (by decide)) (ct_X9_isFlag (kCx_j X) _ _ _ h) (Nat.le_of_ble_eq_true rfl) dX9_narrows_12 hP hS hl) (fun v2 h => ?_)
    refine k_if_ne (tgt := 20) X dX9_narrows_15 (by decide) h (fun h => ?_) (fun h => ?_)
    · refine k_aload_n X dX9_narrows_20 0 rfl ?_
      refine k_getR (t := 1) X fk_X9_14 (by rfl) (by decide) rfl dX9_narrows_21 ?_
      refine k_getI X fk_X9_109 kzC_1 rfl dX9_narrows_24 ?_
      refine k_bipush X dX9_narrows_27 (by decide +kernel) ?_
      refine k_icmp_lt (tgt := 35) X dX9_narrows_29 (by decide) ⟨h.1, ⟨by decide, by decide⟩, h.2⟩ (fun h => ?_) (fun h => ?_)
      · refine k_aload_n X dX9_narrows_35 0 rfl ?_
        refine k_afterV (st := []) (fun H locs ls hP hS hl => k_runV (As := []) X lk_X9_161 rfl yo_X9_settle rfl (kR_ok (by decide) (by decide)) (ct_X9_settle (kCx_j X)  _ _ h) (by rfl) rfl (Nat.le_of_ble_eq_true rfl) dX9_narrows_36 hP hS hl) (fun z3 h => ?_)
        refine k_aload_n X dX9_narrows_39 0 rfl ?_
        refine k_getR (t := 86) X fk_X9_43 (by rfl) (by decide) rfl dX9_narrows_40 ?_
        refine k_getI X fk_X9_205 kzC_86 rfl dX9_narrows_43 ?_
        refine k_if_eq (tgt := 52) X dX9_narrows_46 (by decide) h (fun h => ?_) (fun h => ?_)
        · refine k_aload_n X dX9_narrows_52 0 rfl ?_
          refine k_getR (t := 85) X fk_X9_36 (by rfl) (by decide) rfl dX9_narrows_53 ?_
          refine k_aload_n X dX9_narrows_56 0 rfl ?_
          refine k_getR (t := 81) X fk_X9_26 (by rfl) (by decide) rfl dX9_narrows_57 ?_
          refine k_aload_n X dX9_narrows_60 0 rfl ?_
          refine k_getR (t := 1) X fk_X9_14 (by rfl) (by decide) rfl dX9_narrows_61 ?_
          refine k_getI X fk_X9_86 kzC_1 rfl dX9_narrows_64 ?_
          refine k_afterI (st := []) (fun H locs ls hP hS hl => k_runV (As := [.ref (ad 81), kI (z3 1 0)]) X lk_X9_112 rfl yo_X4_reads rfl (kR_ok (by decide) (by decide)) (ct_X4_reads (kCx_j X) 85 kzC_85 81 kzC_81 _ _ _ h) kzC_85 rfl (Nat.le_of_ble_eq_true rfl) dX9_narrows_67 hP hS hl) (fun v5 z4 h => ?_)
          refine k_istore_n X dX9_narrows_70 h (fun v6 => [(3, kI v6), (0, .ref (ad 0)), (1, kI a1), (2, kI a2)]) (by decide) (fun _ => rfl) (fun v6 h => ?_)
          refine k_aload_n X dX9_narrows_71 1 rfl ?_
          refine k_getR (t := 81) X fk_X9_26 (by rfl) (by decide) rfl dX9_narrows_72 ?_
          refine k_afterV (st := []) (fun H locs ls hP hS hl => k_runV (As := []) X lk_X9_75 rfl yo_X5_wipe rfl (kR_ok (by decide) (by decide)) (ct_X5_wipe (kCx_j X) 81 kzC_81 _ _ h) kzC_81 rfl (Nat.le_of_ble_eq_true rfl) dX9_narrows_75 hP hS hl) (fun z7 h => ?_)
          refine k_iload_n X dX9_narrows_78 0 rfl ?_
          refine k_if_ne (tgt := 93) X dX9_narrows_79 (by decide) h (fun h => ?_) (fun h => ?_)
          · refine k_aload_n X dX9_narrows_93 1 rfl ?_
            refine k_afterV (st := []) (fun H locs ls hP hS hl => k_runV (As := []) X lk_X9_227 rfl yo_X9_workOneMore rfl (kR_ok (by decide) (by decide)) (ct_X9_workOneMore (kCx_j X)  _ _ h) (by rfl) rfl (Nat.le_of_ble_eq_true rfl) dX9_narrows_94 hP hS hl) (fun z8 h => ?_)
            refine k_aload_n X dX9_narrows_97 1 rfl ?_
            refine k_getR (t := 109) X fk_X9_47 (by rfl) (by decide) rfl dX9_narrows_98 ?_
            refine k_getI X fk_X9_205 kzC_109 rfl dX9_narrows_101 ?_
            refine k_if_eq (tgt := 119) X dX9_narrows_104 (by decide) h (fun h => ?_) (fun h => ?_)
            · refine k_aload_n X dX9_narrows_119 1 rfl ?_
              refine k_getR (t := 86) X fk_X9_43 (by rfl) (by decide) rfl dX9_narrows_120 ?_
              refine k_iload_n X dX9_narrows_123 2 rfl ?_
              refine k_iload_n X dX9_narrows_124 3 rfl ?_
              refine k_afterP (st := []) (fun H locs ls hP hS hl => k_runS (As := [.ref (ad 86), kI a1, kI a2]) X lk_X9_230 yo_X9_yearsBetween rfl (kR_ok (by decide) (by decide)) (ct_X9_yearsBetween (kCx_j X) 86 kzC_86 _ _ _ _ h) (Nat.le_of_ble_eq_true rfl) dX9_narrows_125 hP hS hl) (fun v9 h => ?_)
              refine k_aload_n X dX9_narrows_128 1 rfl ?_
              refine k_getR (t := 109) X fk_X9_47 (by rfl) (by decide) rfl dX9_narrows_129 ?_
              refine k_iload_n X dX9_narrows_132 2 rfl ?_
              refine k_iload_n X dX9_narrows_133 3 rfl ?_
              refine k_afterP (st := [kI v9]) (fun H locs ls hP hS hl => k_runS (As := [.ref (ad 109), kI a1, kI a2]) X lk_X9_230 yo_X9_yearsBetween rfl (kR_ok (by decide) (by decide)) (ct_X9_yearsBetween (kCx_j X) 109 kzC_109 _ _ _ _ h) (Nat.le_of_ble_eq_true rfl) dX9_narrows_134 hP hS hl) (fun v10 h => ?_)
              refine k_isub X dX9_narrows_137 ?_
              exact k_iret X hrt hlk dX9_narrows_138 h
            · refine k_sipush X dX9_narrows_107 (by decide +kernel) ?_
              refine k_aload_n X dX9_narrows_110 1 rfl ?_
              refine k_getR (t := 109) X fk_X9_47 (by rfl) (by decide) rfl dX9_narrows_111 ?_
              refine k_getI X fk_X9_205 kzC_109 rfl dX9_narrows_114 ?_
              refine k_isub X dX9_narrows_117 ?_
              exact k_iret X hrt hlk dX9_narrows_118 h
          · refine k_bipush X dX9_narrows_82 (by decide +kernel) ?_
            refine k_aload_n X dX9_narrows_84 1 rfl ?_
            refine k_getR (t := 85) X fk_X9_36 (by rfl) (by decide) rfl dX9_narrows_85 ?_
            refine k_getI X fk_X9_116 kzC_85 rfl dX9_narrows_88 ?_
            refine k_isub X dX9_narrows_91 ?_
            exact k_iret X hrt hlk dX9_narrows_92 h
        · refine k_bipush X dX9_narrows_49 (by decide +kernel) ?_
          exact k_iret X hrt hlk dX9_narrows_51 h
      · refine k_bipush X dX9_narrows_32 (by decide +kernel) ?_
        exact k_iret X hrt hlk dX9_narrows_34 h
    · refine k_iconst X dX9_narrows_18 ?_
      exact k_iret X hrt hlk dX9_narrows_19 h
set_option maxHeartbeats 4000000 in
set_option maxRecDepth 100000 in
theorem ct_X9_of {l : Launch} {D : va_G} {cA : Nat → ClassId} {ad sa : Nat → Nat} (hj : kInj NC ad) (a1 : Int) (a2 : Int) (z : Hp) (Kp : Int → Prop) (h : cal_X9_of a1 a2 z Kp) : kMet l yX9_of cX9_of 3 (some .int) 1 NC kdC D cA ad sa [.ref (ad 0), kI a1, kI a2] z (kQi NC kdC D cA ad (fun v z1 => z1 = z ∧ Kp v)) := by
  unfold cal_X9_of at h
  refine k_met (cc := cX9_of) (own := RX9) (nL := 3) rfl rfl (Nat.le_of_ble_eq_true rfl) hj kltC (fun p e s m below meth c X hrt hlk => ?_)
  refine k_sub (lv' := [(0, .ref (ad 0)), (1, kI a1), (2, kI a2)]) [0, 1, 2] rfl ?_
  refine k_aload_n X dX9_of_0 0 rfl ?_
  refine k_getR (t := 1) X fk_X9_14 (by rfl) (by decide) rfl dX9_of_1 ?_
  refine k_iload_n X dX9_of_4 1 rfl ?_
  refine k_afterP (st := []) (fun H locs ls hP hS hl => k_runV (As := [kI a1]) X lk_X9_123 rfl yo_X0_isStatement rfl (kR_ok (by decide) (by decide)) (ct_X0_isStatement (kCx_j X) 1 kzC_1 _ _ _ h) kzC_1 rfl (Nat.le_of_ble_eq_true rfl) dX9_of_5 hP hS hl) (fun v1 h => ?_)
  refine k_if_ne (tgt := 13) X dX9_of_8 (by decide) h (fun h => ?_) (fun h => ?_)
  · refine k_iload_n X dX9_of_13 2 rfl ?_
    obtain ⟨hr2, h⟩ := h
    by_cases q3 : a2 = 0
    · rw [if_pos q3] at h
      refine k_swin (tgt := 52) X dX9_of_14 hr2 q3 (by decide) (by decide) rfl (by decide) ?_
      refine k_aload_n X dX9_of_52 0 rfl ?_
      refine k_getR (t := 1) X fk_X9_14 (by rfl) (by decide) rfl dX9_of_53 ?_
      refine k_getR (t := 35) X fk_X9_129 kzC_1 (by decide) rfl dX9_of_56 ?_
      refine k_iload_n X dX9_of_59 1 rfl ?_
      refine k_iald X kzC_35 (Nat.le_of_ble_eq_true rfl) dX9_of_60 h (fun h => ?_)
      exact k_iret X hrt hlk dX9_of_61 ⟨rfl, h⟩
    rw [if_neg q3] at h
    by_cases q4 : a2 = 1
    · rw [if_pos q4] at h
      refine k_swin (tgt := 62) X dX9_of_14 hr2 q4 (by decide) (by decide) rfl (by decide) ?_
      refine k_aload_n X dX9_of_62 0 rfl ?_
      refine k_getR (t := 1) X fk_X9_14 (by rfl) (by decide) rfl dX9_of_63 ?_
      refine k_getR (t := 36) X fk_X9_132 kzC_1 (by decide) rfl dX9_of_66 ?_
      refine k_iload_n X dX9_of_69 1 rfl ?_
      refine k_iald X kzC_36 (Nat.le_of_ble_eq_true rfl) dX9_of_70 h (fun h => ?_)
      exact k_iret X hrt hlk dX9_of_71 ⟨rfl, h⟩
    rw [if_neg q4] at h
    by_cases q5 : a2 = 2
    · rw [if_pos q5] at h
      refine k_swin (tgt := 72) X dX9_of_14 hr2 q5 (by decide) (by decide) rfl (by decide) ?_
      refine k_aload_n X dX9_of_72 0 rfl ?_
      refine k_getR (t := 1) X fk_X9_14 (by rfl) (by decide) rfl dX9_of_73 ?_
      refine k_getR (t := 37) X fk_X9_135 kzC_1 (by decide) rfl dX9_of_76 ?_
      refine k_iload_n X dX9_of_79 1 rfl ?_
      refine k_iald X kzC_37 (Nat.le_of_ble_eq_true rfl) dX9_of_80 h (fun h => ?_)
      exact k_iret X hrt hlk dX9_of_81 ⟨rfl, h⟩
    rw [if_neg q5] at h
    by_cases q6 : a2 = 3
    · rw [if_pos q6] at h
      refine k_swin (tgt := 82) X dX9_of_14 hr2 q6 (by decide) (by decide) rfl (by decide) ?_
      refine k_aload_n X dX9_of_82 0 rfl ?_
      refine k_getR (t := 1) X fk_X9_14 (by rfl) (by decide) rfl dX9_of_83 ?_
      refine k_getR (t := 38) X fk_X9_138 kzC_1 (by decide) rfl dX9_of_86 ?_
      refine k_iload_n X dX9_of_89 1 rfl ?_
      refine k_iald X kzC_38 (Nat.le_of_ble_eq_true rfl) dX9_of_90 h (fun h => ?_)
      exact k_iret X hrt hlk dX9_of_91 ⟨rfl, h⟩
    rw [if_neg q6] at h
    by_cases q7 : a2 = 4
    · rw [if_pos q7] at h
      refine k_swin (tgt := 92) X dX9_of_14 hr2 q7 (by decide) (by decide) rfl (by decide) ?_
      refine k_aload_n X dX9_of_92 0 rfl ?_
      refine k_getR (t := 1) X fk_X9_14 (by rfl) (by decide) rfl dX9_of_93 ?_
      refine k_getR (t := 39) X fk_X9_141 kzC_1 (by decide) rfl dX9_of_96 ?_
      refine k_iload_n X dX9_of_99 1 rfl ?_
      refine k_iald X kzC_39 (Nat.le_of_ble_eq_true rfl) dX9_of_100 h (fun h => ?_)
      exact k_iret X hrt hlk dX9_of_101 ⟨rfl, h⟩
    rw [if_neg q7] at h
    by_cases q8 : a2 = 5
    · rw [if_pos q8] at h
      refine k_swin (tgt := 102) X dX9_of_14 hr2 q8 (by decide) (by decide) rfl (by decide) ?_
      refine k_aload_n X dX9_of_102 0 rfl ?_
      refine k_getR (t := 1) X fk_X9_14 (by rfl) (by decide) rfl dX9_of_103 ?_
      refine k_getR (t := 40) X fk_X9_126 kzC_1 (by decide) rfl dX9_of_106 ?_
      refine k_iload_n X dX9_of_109 1 rfl ?_
      refine k_iald X kzC_40 (Nat.le_of_ble_eq_true rfl) dX9_of_110 h (fun h => ?_)
      exact k_iret X hrt hlk dX9_of_111 ⟨rfl, h⟩
    rw [if_neg q8] at h
    refine k_swout (tgt := 112) X dX9_of_14 hr2 (by omega) (by decide) ?_
    refine k_iconst X dX9_of_112 ?_
    exact k_iret X hrt hlk dX9_of_113 ⟨rfl, h⟩
  · refine k_iconst X dX9_of_11 ?_
    exact k_iret X hrt hlk dX9_of_12 ⟨rfl, h⟩
set_option maxHeartbeats 4000000 in
set_option maxRecDepth 100000 in
theorem ct_X9_order {l : Launch} {D : va_G} {cA : Nat → ClassId} {ad sa : Nat → Nat} (hj : kInj NC ad) (a1 : Int) (z : Hp) (Kp : Int → Hp → Prop) (h : cal_X9_order a1 z Kp) : kMet l yX9_order cX9_order 2 (some .int) 6 NC kdC D cA ad sa [.ref (ad 0), kI a1] z (kQi NC kdC D cA ad Kp) := by
  unfold cal_X9_order at h
  refine k_met (cc := cX9_order) (own := RX9) (nL := 2) rfl rfl (Nat.le_of_ble_eq_true rfl) hj kltC (fun p e s m below meth c X hrt hlk => ?_)
  refine k_sub (lv' := [(0, .ref (ad 0)), (1, kI a1)]) [0, 1] rfl ?_
  refine k_aload_n X dX9_order_0 0 rfl ?_
  refine k_afterV (st := []) (fun H locs ls hP hS hl => k_runV (As := []) X lk_X9_161 rfl yo_X9_settle rfl (kR_ok (by decide) (by decide)) (ct_X9_settle (kCx_j X)  _ _ h) (by rfl) rfl (Nat.le_of_ble_eq_true rfl) dX9_order_1 hP hS hl) (fun z1 h => ?_)
  refine k_iload_n X dX9_order_4 1 rfl ?_
  refine k_if_lt (tgt := 34) X dX9_order_5 (by decide) h (fun h => ?_) (fun h => ?_)
  · refine k_iconst X dX9_order_34 ?_
    exact k_iret X hrt hlk dX9_order_35 h
  · refine k_iload_n X dX9_order_8 1 rfl ?_
    refine k_aload_n X dX9_order_9 0 rfl ?_
    refine k_getR (t := 86) X fk_X9_43 (by rfl) (by decide) rfl dX9_order_10 ?_
    refine k_getR (t := 88) X fk_X9_164 kzC_86 (by decide) rfl dX9_order_13 ?_
    refine k_getI X fk_X9_300 kzC_88 rfl dX9_order_16 ?_
    refine k_icmp_ge (tgt := 34) X dX9_order_19 (by decide) h (fun h => ?_) (fun h => ?_)
    · refine k_iconst X dX9_order_34 ?_
      exact k_iret X hrt hlk dX9_order_35 h
    · refine k_aload_n X dX9_order_22 0 rfl ?_
      refine k_getR (t := 86) X fk_X9_43 (by rfl) (by decide) rfl dX9_order_23 ?_
      refine k_getR (t := 108) X fk_X9_303 kzC_86 (by decide) rfl dX9_order_26 ?_
      refine k_iload_n X dX9_order_29 1 rfl ?_
      refine k_iald X kzC_108 (Nat.le_of_ble_eq_true rfl) dX9_order_30 h (fun h => ?_)
      refine k_goto (tgt := 35) X dX9_order_31 (by decide) ?_
      exact k_iret X hrt hlk dX9_order_35 h
set_option maxHeartbeats 4000000 in
set_option maxRecDepth 100000 in
theorem ct_X9_paper {l : Launch} {D : va_G} {cA : Nat → ClassId} {ad sa : Nat → Nat} (hj : kInj NC ad) (a1 : Int) (z : Hp) (Kp : Int → Prop) (h : cal_X9_paper a1 z Kp) : kMet l yX9_paper cX9_paper 2 (some .int) 1 NC kdC D cA ad sa [.ref (ad 0), kI a1] z (kQi NC kdC D cA ad (fun v z1 => z1 = z ∧ Kp v)) := by
  unfold cal_X9_paper at h
  refine k_met (cc := cX9_paper) (own := RX9) (nL := 2) rfl rfl (Nat.le_of_ble_eq_true rfl) hj kltC (fun p e s m below meth c X hrt hlk => ?_)
  refine k_sub (lv' := [(0, .ref (ad 0)), (1, kI a1)]) [0, 1] rfl ?_
  refine k_aload_n X dX9_paper_0 0 rfl ?_
  refine k_getR (t := 83) X fk_X9_30 (by rfl) (by decide) rfl dX9_paper_1 ?_
  refine k_iload_n X dX9_paper_4 1 rfl ?_
  refine k_afterP (st := []) (fun H locs ls hP hS hl => k_runV (As := [kI a1]) X lk_X9_78 rfl yo_X5_at rfl (kR_ok (by decide) (by decide)) (ct_X5_at (kCx_j X) 83 kzC_83 _ _ _ h) kzC_83 rfl (Nat.le_of_ble_eq_true rfl) dX9_paper_5 hP hS hl) (fun v1 h => ?_)
  exact k_iret X hrt hlk dX9_paper_8 ⟨rfl, h⟩
set_option maxHeartbeats 4000000 in
set_option maxRecDepth 100000 in
theorem ct_X9_path {l : Launch} {D : va_G} {cA : Nat → ClassId} {ad sa : Nat → Nat} (hj : kInj NC ad) (a1 : Int) (a2 : Int) (a3 : Int) (z : Hp) (Kp : Int → Hp → Prop) (h : cal_X9_path a1 a2 a3 z Kp) : kMet l yX9_path cX9_path 5 (some .int) 6 NC kdC D cA ad sa [.ref (ad 0), kI a1, kI a2, kI a3] z (kQi NC kdC D cA ad Kp) := by
  unfold cal_X9_path at h
  refine k_met (cc := cX9_path) (own := RX9) (nL := 5) rfl rfl (Nat.le_of_ble_eq_true rfl) hj kltC (fun p e s m below meth c X hrt hlk => ?_)
  refine k_sub (lv' := [(0, .ref (ad 0)), (1, kI a1), (2, kI a2), (3, kI a3)]) [0, 1, 2, 3] rfl ?_
  refine k_aload_n X dX9_path_0 0 rfl ?_
  refine k_iload_n X dX9_path_1 1 rfl ?_
  refine k_iload_n X dX9_path_2 2 rfl ?_
  refine k_afterP (st := []) (fun H locs ls hP hS hl => k_runV (As := [kI a1, kI a2]) X lk_X9_220 rfl yo_X9_arePersons rfl (kR_ok (by decide) (by decide)) (ct_X9_arePersons (kCx_j X) _ _ _ _ h) (by rfl) rfl (Nat.le_of_ble_eq_true rfl) dX9_path_3 hP hS hl) (fun v1 h => ?_)
  refine k_if_eq (tgt := 14) X dX9_path_6 (by decide) h (fun h => ?_) (fun h => ?_)
  · refine k_iconst X dX9_path_14 ?_
    exact k_iret X hrt hlk dX9_path_15 h
  · refine k_iload_n X dX9_path_9 3 rfl ?_
    refine k_iconst X dX9_path_10 ?_
    refine k_icmp_ge (tgt := 16) X dX9_path_11 (by decide) ⟨h.1, ⟨by decide, by decide⟩, h.2⟩ (fun h => ?_) (fun h => ?_)
    · refine k_aload_n X dX9_path_16 0 rfl ?_
      refine k_afterV (st := []) (fun H locs ls hP hS hl => k_runV (As := []) X lk_X9_161 rfl yo_X9_settle rfl (kR_ok (by decide) (by decide)) (ct_X9_settle (kCx_j X)  _ _ h) (by rfl) rfl (Nat.le_of_ble_eq_true rfl) dX9_path_17 hP hS hl) (fun z2 h => ?_)
      refine k_aload_n X dX9_path_20 0 rfl ?_
      refine k_iload_n X dX9_path_21 1 rfl ?_
      refine k_iload_n X dX9_path_22 2 rfl ?_
      refine k_afterV (st := []) (fun H locs ls hP hS hl => k_runV (As := [kI a1, kI a2]) X lk_X9_237 rfl yo_X9_seekWays rfl (kR_ok (by decide) (by decide)) (ct_X9_seekWays (kCx_j X) _ _ _ _ h) (by rfl) rfl (Nat.le_of_ble_eq_true rfl) dX9_path_23 hP hS hl) (fun z3 h => ?_)
      refine k_aload_n X dX9_path_26 0 rfl ?_
      refine k_getR (t := 133) X fk_X9_57 (by rfl) (by decide) rfl dX9_path_27 ?_
      refine k_getI X fk_X9_240 kzC_133 rfl dX9_path_30 ?_
      refine k_if_ge (tgt := 39) X dX9_path_33 (by decide) h (fun h => ?_) (fun h => ?_)
      · refine k_aload_n X dX9_path_39 0 rfl ?_
        refine k_getR (t := 133) X fk_X9_57 (by rfl) (by decide) rfl dX9_path_40 ?_
        refine k_getI X fk_X9_243 kzC_133 rfl dX9_path_43 ?_
        refine k_aload_n X dX9_path_46 0 rfl ?_
        refine k_getR (t := 133) X fk_X9_57 (by rfl) (by decide) rfl dX9_path_47 ?_
        refine k_getI X fk_X9_246 kzC_133 rfl dX9_path_50 ?_
        refine k_iadd X dX9_path_53 ?_
        refine k_iconst X dX9_path_54 ?_
        refine k_iadd X dX9_path_55 ?_
        refine k_istore X dX9_path_56 h (fun v4 => [(4, kI v4), (0, .ref (ad 0)), (1, kI a1), (2, kI a2), (3, kI a3)]) (by decide) (fun _ => rfl) (fun v4 h => ?_)
        refine k_iload_n X dX9_path_58 4 rfl ?_
        refine k_iconst X dX9_path_59 ?_
        refine k_icmp_ne (tgt := 66) X dX9_path_60 (by decide) ⟨h.1, ⟨by decide, by decide⟩, h.2⟩ (fun h => ?_) (fun h => ?_)
        · refine k_iload_n X dX9_path_66 4 rfl ?_
          refine k_iload X dX9_path_67 0 rfl ?_
          refine k_icmp_ge (tgt := 90) X dX9_path_69 (by decide) h (fun h => ?_) (fun h => ?_)
          · refine k_iconst X dX9_path_90 ?_
            exact k_iret X hrt hlk dX9_path_91 h
          · refine k_aload_n X dX9_path_72 1 rfl ?_
            refine k_getR (t := 133) X fk_X9_57 (by rfl) (by decide) rfl dX9_path_73 ?_
            refine k_aload_n X dX9_path_76 1 rfl ?_
            refine k_getR (t := 86) X fk_X9_43 (by rfl) (by decide) rfl dX9_path_77 ?_
            refine k_getR (t := 88) X fk_X9_164 kzC_86 (by decide) rfl dX9_path_80 ?_
            refine k_iload_n X dX9_path_83 4 rfl ?_
            refine k_afterP (st := []) (fun H locs ls hP hS hl => k_runV (As := [.ref (ad 88), kI a3]) X lk_X9_279 rfl yo_X7_stop rfl (kR_ok (by decide) (by decide)) (ct_X7_stop (kCx_j X) 133 kzC_133 88 kzC_88 _ _ _ h) kzC_133 rfl (Nat.le_of_ble_eq_true rfl) dX9_path_84 hP hS hl) (fun v5 h => ?_)
            refine k_goto (tgt := 91) X dX9_path_87 (by decide) ?_
            exact k_iret X hrt hlk dX9_path_91 h
        · refine k_iload X dX9_path_63 0 rfl ?_
          exact k_iret X hrt hlk dX9_path_65 h
      · refine k_bipush X dX9_path_36 (by decide +kernel) ?_
        exact k_iret X hrt hlk dX9_path_38 h
    · refine k_iconst X dX9_path_14 ?_
      exact k_iret X hrt hlk dX9_path_15 h
set_option maxHeartbeats 4000000 in
set_option maxRecDepth 100000 in
theorem ct_X9_people {l : Launch} {D : va_G} {cA : Nat → ClassId} {ad sa : Nat → Nat} (hj : kInj NC ad) (a1 : Int) (a2 : Int) (z : Hp) (Kp : Int → Hp → Prop) (h : cal_X9_people a1 a2 z Kp) : kMet l yX9_people cX9_people 3 (some .int) 6 NC kdC D cA ad sa [.ref (ad 0), kI a1, kI a2] z (kQi NC kdC D cA ad Kp) := by
  unfold cal_X9_people at h
  refine k_met (cc := cX9_people) (own := RX9) (nL := 3) rfl rfl (Nat.le_of_ble_eq_true rfl) hj kltC (fun p e s m below meth c X hrt hlk => ?_)
  refine k_sub (lv' := [(0, .ref (ad 0)), (1, kI a1), (2, kI a2)]) [0, 1, 2] rfl ?_
  refine k_aload_n X dX9_people_0 0 rfl ?_
  refine k_getR (t := 1) X fk_X9_14 (by rfl) (by decide) rfl dX9_people_1 ?_
  refine k_iload_n X dX9_people_4 1 rfl ?_
  refine k_afterP (st := []) (fun H locs ls hP hS hl => k_runV (As := [kI a1]) X lk_X9_100 rfl yo_X0_isPerson rfl (kR_ok (by decide) (by decide)) (ct_X0_isPerson (kCx_j X) 1 kzC_1 _ _ _ h) kzC_1 rfl (Nat.le_of_ble_eq_true rfl) dX9_people_5 hP hS hl) (fun v1 h => ?_)
  refine k_if_ne (tgt := 13) X dX9_people_8 (by decide) h (fun h => ?_) (fun h => ?_)
  · refine k_aload_n X dX9_people_13 0 rfl ?_
    refine k_afterV (st := []) (fun H locs ls hP hS hl => k_runV (As := []) X lk_X9_161 rfl yo_X9_settle rfl (kR_ok (by decide) (by decide)) (ct_X9_settle (kCx_j X)  _ _ h) (by rfl) rfl (Nat.le_of_ble_eq_true rfl) dX9_people_14 hP hS hl) (fun z2 h => ?_)
    refine k_aload_n X dX9_people_17 0 rfl ?_
    refine k_getR (t := 86) X fk_X9_43 (by rfl) (by decide) rfl dX9_people_18 ?_
    refine k_getR (t := 88) X fk_X9_164 kzC_86 (by decide) rfl dX9_people_21 ?_
    refine k_aload_n X dX9_people_24 0 rfl ?_
    refine k_getR (t := 86) X fk_X9_43 (by rfl) (by decide) rfl dX9_people_25 ?_
    refine k_getR (t := 88) X fk_X9_164 kzC_86 (by decide) rfl dX9_people_28 ?_
    refine k_getR (t := 89) X fk_X9_168 kzC_88 (by decide) rfl dX9_people_31 ?_
    refine k_iload_n X dX9_people_34 1 rfl ?_
    refine k_iald X kzC_89 (Nat.le_of_ble_eq_true rfl) dX9_people_35 h (fun h => ?_)
    refine k_iload_n X dX9_people_36 2 rfl ?_
    refine k_afterP (st := []) (fun H locs ls hP hS hl => k_runV (As := [kI (z2 89 a1.toNat), kI a2]) X lk_X9_173 rfl yo_X1_tell rfl (kR_ok (by decide) (by decide)) (ct_X1_tell (kCx_j X) 88 kzC_88 _ _ _ _ h) kzC_88 rfl (Nat.le_of_ble_eq_true rfl) dX9_people_37 hP hS hl) (fun v3 h => ?_)
    exact k_iret X hrt hlk dX9_people_40 h
  · refine k_iconst X dX9_people_11 ?_
    exact k_iret X hrt hlk dX9_people_12 h
set_option maxHeartbeats 4000000 in
set_option maxRecDepth 100000 in
theorem ct_X9_person {l : Launch} {D : va_G} {cA : Nat → ClassId} {ad sa : Nat → Nat} (hj : kInj NC ad) (a1 : Int) (z : Hp) (Kp : Int → Hp → Prop) (h : cal_X9_person a1 z Kp) : kMet l yX9_person cX9_person 4 (some .int) 1 NC kdC D cA ad sa [.ref (ad 0), kI a1] z (kQi NC kdC D cA ad Kp) := by
  unfold cal_X9_person at h
  refine k_met (cc := cX9_person) (own := RX9) (nL := 4) rfl rfl (Nat.le_of_ble_eq_true rfl) hj kltC (fun p e s m below meth c X hrt hlk => ?_)
  refine k_sub (lv' := [(0, .ref (ad 0)), (1, kI a1)]) [0, 1] rfl ?_
  refine k_iload_n X dX9_person_0 1 rfl ?_
  refine k_afterP (st := []) (fun H locs ls hP hS hl => k_runS (As := [kI a1]) X lk_X9_82 yo_X9_isSex rfl (kR_ok (by decide) (by decide)) (ct_X9_isSex (kCx_j X) _ _ _ h) (Nat.le_of_ble_eq_true rfl) dX9_person_1 hP hS hl) (fun v1 h => ?_)
  refine k_if_ne (tgt := 9) X dX9_person_4 (by decide) h (fun h => ?_) (fun h => ?_)
  · refine k_aload_n X dX9_person_9 0 rfl ?_
    refine k_getR (t := 1) X fk_X9_14 (by rfl) (by decide) rfl dX9_person_10 ?_
    refine k_getI X fk_X9_86 kzC_1 rfl dX9_person_13 ?_
    refine k_bipush X dX9_person_16 (by decide +kernel) ?_
    refine k_icmp_lt (tgt := 24) X dX9_person_18 (by decide) ⟨h.1, ⟨by decide, by decide⟩, h.2⟩ (fun h => ?_) (fun h => ?_)
    · refine k_aload_n X dX9_person_24 0 rfl ?_
      refine k_getR (t := 81) X fk_X9_26 (by rfl) (by decide) rfl dX9_person_25 ?_
      refine k_afterP (st := []) (fun H locs ls hP hS hl => k_runV (As := []) X lk_X9_89 rfl yo_X5_nameFault rfl (kR_ok (by decide) (by decide)) (ct_X5_nameFault (kCx_j X) 81 kzC_81 _ _ h) kzC_81 rfl (Nat.le_of_ble_eq_true rfl) dX9_person_28 hP hS hl) (fun v2 h => ?_)
      refine k_istore_n X dX9_person_31 h (fun v3 => [(2, kI v3), (0, .ref (ad 0)), (1, kI a1)]) (by decide) (fun _ => rfl) (fun v3 h => ?_)
      refine k_aload_n X dX9_person_32 1 rfl ?_
      refine k_getR (t := 1) X fk_X9_14 (by rfl) (by decide) rfl dX9_person_33 ?_
      refine k_getI X fk_X9_86 kzC_1 rfl dX9_person_36 ?_
      refine k_istore_n X dX9_person_39 h (fun v4 => [(3, kI v4), (2, kI v3), (0, .ref (ad 0)), (1, kI a1)]) (by decide) (fun _ => rfl) (fun v4 h => ?_)
      refine k_iload_n X dX9_person_40 1 rfl ?_
      refine jn_use (fun J5 => ∀ (z6 : Hp), J5 z6 → kAt p l e (kR 1) s m ([.ref (ad 0), kI a1] : List Value).toArray below meth c (MQ below (kQi NC kdC D cA ad Kp) ([.ref (ad 0), kI a1] : List Value).toArray s 0 0 (kA NC ad)) 4 NC kdC D cA ad 60 [(0, .ref (ad 0)), (2, kI v3), (3, kI v4)] [] z6) h ?_ (fun J5 hJ5 h => ?_)
      · intro z6 h
        refine k_aload_n X dX9_person_60 0 rfl ?_
        refine k_getR (t := 81) X fk_X9_26 (by rfl) (by decide) rfl dX9_person_61 ?_
        refine k_afterV (st := []) (fun H locs ls hP hS hl => k_runV (As := []) X lk_X9_75 rfl yo_X5_wipe rfl (kR_ok (by decide) (by decide)) (ct_X5_wipe (kCx_j X) 81 kzC_81 _ _ h) kzC_81 rfl (Nat.le_of_ble_eq_true rfl) dX9_person_64 hP hS hl) (fun z7 h => ?_)
        refine k_iload_n X dX9_person_67 1 rfl ?_
        refine k_if_ge (tgt := 75) X dX9_person_68 (by decide) h (fun h => ?_) (fun h => ?_)
        · refine k_bipush X dX9_person_75 (by decide +kernel) ?_
          refine k_iload_n X dX9_person_77 1 rfl ?_
          refine k_isub X dX9_person_78 ?_
          exact k_iret X hrt hlk dX9_person_79 h
        · refine k_iload_n X dX9_person_71 2 rfl ?_
          refine k_goto (tgt := 79) X dX9_person_72 (by decide) ?_
          exact k_iret X hrt hlk dX9_person_79 h
      · refine k_if_ge (tgt := 60) X dX9_person_41 (by decide) h (fun h => ?_) (fun h => ?_)
        · exact k_sub [2, 1, 0] rfl (hJ5 _ h)
        · refine k_aload_n X dX9_person_44 2 rfl ?_
          refine k_getR (t := 1) X fk_X9_14 (by rfl) (by decide) rfl dX9_person_45 ?_
          refine k_aload_n X dX9_person_48 2 rfl ?_
          refine k_getR (t := 81) X fk_X9_26 (by rfl) (by decide) rfl dX9_person_49 ?_
          refine k_iload_n X dX9_person_52 3 rfl ?_
          refine k_afterV (st := []) (fun H locs ls hP hS hl => k_runV (As := [.ref (ad 81), kI a1]) X lk_X9_93 rfl yo_X0_addPerson rfl (kR_ok (by decide) (by decide)) (ct_X0_addPerson (kCx_j X) 1 kzC_1 81 kzC_81 _ _ _ h) kzC_1 rfl (Nat.le_of_ble_eq_true rfl) dX9_person_53 hP hS hl) (fun z8 h => ?_)
          refine k_aload_n X dX9_person_56 2 rfl ?_
          refine k_afterV (st := []) (fun H locs ls hP hS hl => k_runV (As := []) X lk_X9_97 rfl yo_X9_unsettle rfl (kR_ok (by decide) (by decide)) (ct_X9_unsettle (kCx_j X)  _ _ h) (by rfl) rfl (Nat.le_of_ble_eq_true rfl) dX9_person_57 hP hS hl) (fun z9 h => ?_)
          exact k_sub [2, 1, 0] rfl (hJ5 _ h)
    · refine k_bipush X dX9_person_21 (by decide +kernel) ?_
      exact k_iret X hrt hlk dX9_person_23 h
  · refine k_iconst X dX9_person_7 ?_
    exact k_iret X hrt hlk dX9_person_8 h
set_option maxHeartbeats 4000000 in
set_option maxRecDepth 100000 in
theorem ct_X9_proof {l : Launch} {D : va_G} {cA : Nat → ClassId} {ad sa : Nat → Nat} (hj : kInj NC ad) (a1 : Int) (a2 : Int) (a3 : Int) (a4 : Int) (a5 : Int) (z : Hp) (Kp : Int → Hp → Prop) (h : cal_X9_proof a1 a2 a3 a4 a5 z Kp) : kMet l yX9_proof cX9_proof 6 (some .int) 6 NC kdC D cA ad sa [.ref (ad 0), kI a1, kI a2, kI a3, kI a4, kI a5] z (kQi NC kdC D cA ad Kp) := by
  unfold cal_X9_proof at h
  refine k_met (cc := cX9_proof) (own := RX9) (nL := 6) rfl rfl (Nat.le_of_ble_eq_true rfl) hj kltC (fun p e s m below meth c X hrt hlk => ?_)
  refine k_sub (lv' := [(0, .ref (ad 0)), (1, kI a1), (2, kI a2), (3, kI a3), (4, kI a4), (5, kI a5)]) [0, 1, 2, 3, 4, 5] rfl ?_
  refine k_aload_n X dX9_proof_0 0 rfl ?_
  refine k_iload_n X dX9_proof_1 1 rfl ?_
  refine k_iload_n X dX9_proof_2 2 rfl ?_
  refine k_iload_n X dX9_proof_3 3 rfl ?_
  refine k_afterP (st := []) (fun H locs ls hP hS hl => k_runV (As := [kI a1, kI a2, kI a3]) X lk_X9_177 rfl yo_X9_isEnd rfl (kR_ok (by decide) (by decide)) (ct_X9_isEnd (kCx_j X) _ _ _ _ _ h) (by rfl) rfl (Nat.le_of_ble_eq_true rfl) dX9_proof_4 hP hS hl) (fun v1 h => ?_)
  refine k_if_eq (tgt := 20) X dX9_proof_7 (by decide) h (fun h => ?_) (fun h => ?_)
  · refine k_iconst X dX9_proof_20 ?_
    exact k_iret X hrt hlk dX9_proof_21 h
  · refine k_iload X dX9_proof_10 4 rfl ?_
    refine k_iload X dX9_proof_12 5 rfl ?_
    refine k_afterP (st := []) (fun H locs ls hP hS hl => k_runS (As := [kI a4, kI a5]) X lk_X9_194 yo_X9_isLinkPart rfl (kR_ok (by decide) (by decide)) (ct_X9_isLinkPart (kCx_j X) _ _ _ _ h) (Nat.le_of_ble_eq_true rfl) dX9_proof_14 hP hS hl) (fun v2 h => ?_)
    refine k_if_ne (tgt := 22) X dX9_proof_17 (by decide) h (fun h => ?_) (fun h => ?_)
    · refine k_aload_n X dX9_proof_22 0 rfl ?_
      refine k_afterV (st := []) (fun H locs ls hP hS hl => k_runV (As := []) X lk_X9_161 rfl yo_X9_settle rfl (kR_ok (by decide) (by decide)) (ct_X9_settle (kCx_j X)  _ _ h) (by rfl) rfl (Nat.le_of_ble_eq_true rfl) dX9_proof_23 hP hS hl) (fun z3 h => ?_)
      refine k_aload_n X dX9_proof_26 0 rfl ?_
      refine k_getR (t := 86) X fk_X9_43 (by rfl) (by decide) rfl dX9_proof_27 ?_
      refine k_getR (t := 99) X fk_X9_181 kzC_86 (by decide) rfl dX9_proof_30 ?_
      refine k_aload_n X dX9_proof_33 0 rfl ?_
      refine k_getR (t := 86) X fk_X9_43 (by rfl) (by decide) rfl dX9_proof_34 ?_
      refine k_iload_n X dX9_proof_37 1 rfl ?_
      refine k_iload_n X dX9_proof_38 2 rfl ?_
      refine k_iload_n X dX9_proof_39 3 rfl ?_
      refine k_afterP (st := [.ref (ad 99)]) (fun H locs ls hP hS hl => k_runS (As := [.ref (ad 86), kI a1, kI a2, kI a3]) X lk_X9_190 yo_X9_personEnd rfl (kR_ok (by decide) (by decide)) (ct_X9_personEnd (kCx_j X) 86 kzC_86 _ _ _ _ _ h) (Nat.le_of_ble_eq_true rfl) dX9_proof_40 hP hS hl) (fun v4 h => ?_)
      refine k_iload X dX9_proof_43 4 rfl ?_
      refine k_iload X dX9_proof_45 5 rfl ?_
      refine k_afterP (st := []) (fun H locs ls hP hS hl => k_runV (As := [kI v4, kI a4, kI a5]) X lk_X9_198 rfl yo_X3_tellRest rfl (kR_ok (by decide) (by decide)) (ct_X3_tellRest (kCx_j X) 99 kzC_99 _ _ _ _ _ h) kzC_99 rfl (Nat.le_of_ble_eq_true rfl) dX9_proof_47 hP hS hl) (fun v5 h => ?_)
      exact k_iret X hrt hlk dX9_proof_50 h
    · refine k_iconst X dX9_proof_20 ?_
      exact k_iret X hrt hlk dX9_proof_21 h
set_option maxHeartbeats 4000000 in
set_option maxRecDepth 100000 in
theorem ct_X9_prove {l : Launch} {D : va_G} {cA : Nat → ClassId} {ad sa : Nat → Nat} (hj : kInj NC ad) (a1 : Int) (a2 : Int) (a3 : Int) (z : Hp) (Kp : Int → Hp → Prop) (h : cal_X9_prove a1 a2 a3 z Kp) : kMet l yX9_prove cX9_prove 4 (some .int) 6 NC kdC D cA ad sa [.ref (ad 0), kI a1, kI a2, kI a3] z (kQi NC kdC D cA ad Kp) := by
  unfold cal_X9_prove at h
  refine k_met (cc := cX9_prove) (own := RX9) (nL := 4) rfl rfl (Nat.le_of_ble_eq_true rfl) hj kltC (fun p e s m below meth c X hrt hlk => ?_)
  refine k_sub (lv' := [(0, .ref (ad 0)), (1, kI a1), (2, kI a2), (3, kI a3)]) [0, 1, 2, 3] rfl ?_
  refine k_aload_n X dX9_prove_0 0 rfl ?_
  refine k_iload_n X dX9_prove_1 1 rfl ?_
  refine k_iload_n X dX9_prove_2 2 rfl ?_
  refine k_iload_n X dX9_prove_3 3 rfl ?_
  refine k_afterP (st := []) (fun H locs ls hP hS hl => k_runV (As := [kI a1, kI a2, kI a3]) X lk_X9_177 rfl yo_X9_isEnd rfl (kR_ok (by decide) (by decide)) (ct_X9_isEnd (kCx_j X) _ _ _ _ _ h) (by rfl) rfl (Nat.le_of_ble_eq_true rfl) dX9_prove_4 hP hS hl) (fun v1 h => ?_)
  refine k_if_ne (tgt := 12) X dX9_prove_7 (by decide) h (fun h => ?_) (fun h => ?_)
  · refine k_aload_n X dX9_prove_12 0 rfl ?_
    refine k_afterV (st := []) (fun H locs ls hP hS hl => k_runV (As := []) X lk_X9_161 rfl yo_X9_settle rfl (kR_ok (by decide) (by decide)) (ct_X9_settle (kCx_j X)  _ _ h) (by rfl) rfl (Nat.le_of_ble_eq_true rfl) dX9_prove_13 hP hS hl) (fun z2 h => ?_)
    refine k_aload_n X dX9_prove_16 0 rfl ?_
    refine k_getR (t := 83) X fk_X9_30 (by rfl) (by decide) rfl dX9_prove_17 ?_
    refine k_afterV (st := []) (fun H locs ls hP hS hl => k_runV (As := []) X lk_X9_75 rfl yo_X5_wipe rfl (kR_ok (by decide) (by decide)) (ct_X5_wipe (kCx_j X) 83 kzC_83 _ _ h) kzC_83 rfl (Nat.le_of_ble_eq_true rfl) dX9_prove_20 hP hS hl) (fun z3 h => ?_)
    refine k_aload_n X dX9_prove_23 0 rfl ?_
    refine k_getR (t := 86) X fk_X9_43 (by rfl) (by decide) rfl dX9_prove_24 ?_
    refine k_getR (t := 99) X fk_X9_181 kzC_86 (by decide) rfl dX9_prove_27 ?_
    refine k_aload_n X dX9_prove_30 0 rfl ?_
    refine k_getR (t := 83) X fk_X9_30 (by rfl) (by decide) rfl dX9_prove_31 ?_
    refine k_aload_n X dX9_prove_34 0 rfl ?_
    refine k_getR (t := 86) X fk_X9_43 (by rfl) (by decide) rfl dX9_prove_35 ?_
    refine k_iload_n X dX9_prove_38 1 rfl ?_
    refine k_iload_n X dX9_prove_39 2 rfl ?_
    refine k_iload_n X dX9_prove_40 3 rfl ?_
    refine k_afterP (st := [.ref (ad 83), .ref (ad 99)]) (fun H locs ls hP hS hl => k_runS (As := [.ref (ad 86), kI a1, kI a2, kI a3]) X lk_X9_190 yo_X9_personEnd rfl (kR_ok (by decide) (by decide)) (ct_X9_personEnd (kCx_j X) 86 kzC_86 _ _ _ _ _ h) (Nat.le_of_ble_eq_true rfl) dX9_prove_41 hP hS hl) (fun v4 h => ?_)
    refine k_afterV (st := []) (fun H locs ls hP hS hl => k_runV (As := [.ref (ad 83), kI v4]) X lk_X9_202 rfl yo_X3_proveInto rfl (kR_ok (by decide) (by decide)) (ct_X3_proveInto (kCx_j X) 99 kzC_99 83 kzC_83 _ _ _ h) kzC_99 rfl (Nat.le_of_ble_eq_true rfl) dX9_prove_44 hP hS hl) (fun z5 h => ?_)
    refine k_aload_n X dX9_prove_47 0 rfl ?_
    refine k_getR (t := 83) X fk_X9_30 (by rfl) (by decide) rfl dX9_prove_48 ?_
    refine k_getI X fk_X9_68 kzC_83 rfl dX9_prove_51 ?_
    exact k_iret X hrt hlk dX9_prove_54 h
  · refine k_iconst X dX9_prove_10 ?_
    exact k_iret X hrt hlk dX9_prove_11 h
set_option maxHeartbeats 4000000 in
set_option maxRecDepth 100000 in
theorem ct_X9_relatives {l : Launch} {D : va_G} {cA : Nat → ClassId} {ad sa : Nat → Nat} (hj : kInj NC ad) (a1 : Int) (a2 : Int) (z : Hp) (Kp : Int → Hp → Prop) (h : cal_X9_relatives a1 a2 z Kp) : kMet l yX9_relatives cX9_relatives 4 (some .long) 6 NC kdC D cA ad sa [.ref (ad 0), kI a1, kI a2] z (kQl NC kdC D cA ad Kp) := by
  unfold cal_X9_relatives at h
  refine k_met (cc := cX9_relatives) (own := RX9) (nL := 4) rfl rfl (Nat.le_of_ble_eq_true rfl) hj kltC (fun p e s m below meth c X hrt hlk => ?_)
  refine k_sub (lv' := [(0, .ref (ad 0)), (1, kI a1), (2, kI a2)]) [0, 1, 2] rfl ?_
  refine k_aload_n X dX9_relatives_0 0 rfl ?_
  refine k_getR (t := 1) X fk_X9_14 (by rfl) (by decide) rfl dX9_relatives_1 ?_
  refine k_iload_n X dX9_relatives_4 1 rfl ?_
  refine k_afterP (st := []) (fun H locs ls hP hS hl => k_runV (As := [kI a1]) X lk_X9_100 rfl yo_X0_isPerson rfl (kR_ok (by decide) (by decide)) (ct_X0_isPerson (kCx_j X) 1 kzC_1 _ _ _ h) kzC_1 rfl (Nat.le_of_ble_eq_true rfl) dX9_relatives_5 hP hS hl) (fun v1 h => ?_)
  refine k_if_eq (tgt := 20) X dX9_relatives_8 (by decide) h (fun h => ?_) (fun h => ?_)
  · refine k_ldc2 X (-9223372036854775808) mw775 dX9_relatives_20 ?_
    exact k_lret X hrt hlk dX9_relatives_23 h
  · refine k_iload_n X dX9_relatives_11 2 rfl ?_
    refine k_if_lt (tgt := 20) X dX9_relatives_12 (by decide) h (fun h => ?_) (fun h => ?_)
    · refine k_ldc2 X (-9223372036854775808) mw775 dX9_relatives_20 ?_
      exact k_lret X hrt hlk dX9_relatives_23 h
    · refine k_iload_n X dX9_relatives_15 2 rfl ?_
      refine k_iconst X dX9_relatives_16 ?_
      refine k_icmp_le (tgt := 24) X dX9_relatives_17 (by decide) ⟨h.1, ⟨by decide, by decide⟩, h.2⟩ (fun h => ?_) (fun h => ?_)
      · refine k_aload_n X dX9_relatives_24 0 rfl ?_
        refine k_afterV (st := []) (fun H locs ls hP hS hl => k_runV (As := []) X lk_X9_161 rfl yo_X9_settle rfl (kR_ok (by decide) (by decide)) (ct_X9_settle (kCx_j X)  _ _ h) (by rfl) rfl (Nat.le_of_ble_eq_true rfl) dX9_relatives_25 hP hS hl) (fun z2 h => ?_)
        refine k_aload_n X dX9_relatives_28 0 rfl ?_
        refine k_getR (t := 86) X fk_X9_43 (by rfl) (by decide) rfl dX9_relatives_29 ?_
        refine k_getR (t := 88) X fk_X9_164 kzC_86 (by decide) rfl dX9_relatives_32 ?_
        refine k_getR (t := 89) X fk_X9_168 kzC_88 (by decide) rfl dX9_relatives_35 ?_
        refine k_iload_n X dX9_relatives_38 1 rfl ?_
        refine k_iald X kzC_89 (Nat.le_of_ble_eq_true rfl) dX9_relatives_39 h (fun h => ?_)
        refine k_istore_n X dX9_relatives_40 h (fun v3 => [(3, kI v3), (0, .ref (ad 0)), (1, kI a1), (2, kI a2)]) (by decide) (fun _ => rfl) (fun v3 h => ?_)
        refine k_iload_n X dX9_relatives_41 3 rfl ?_
        refine k_if_ne (tgt := 58) X dX9_relatives_42 (by decide) h (fun h => ?_) (fun h => ?_)
        · refine k_iload_n X dX9_relatives_58 3 rfl ?_
          refine k_iconst X dX9_relatives_59 ?_
          refine k_icmp_ne (tgt := 78) X dX9_relatives_60 (by decide) ⟨h.1, ⟨by decide, by decide⟩, h.2⟩ (fun h => ?_) (fun h => ?_)
          · refine k_aload_n X dX9_relatives_78 1 rfl ?_
            refine k_getR (t := 86) X fk_X9_43 (by rfl) (by decide) rfl dX9_relatives_79 ?_
            refine k_getR (t := 88) X fk_X9_164 kzC_86 (by decide) rfl dX9_relatives_82 ?_
            refine k_getR (t := 96) X fk_X9_291 kzC_88 (by decide) rfl dX9_relatives_85 ?_
            refine k_iload_n X dX9_relatives_88 0 rfl ?_
            refine k_iald X kzC_96 (Nat.le_of_ble_eq_true rfl) dX9_relatives_89 h (fun h => ?_)
            refine k_i2l X dX9_relatives_90 h (fun h => ?_)
            exact k_lret X hrt hlk dX9_relatives_91 h
          · refine k_aload_n X dX9_relatives_63 1 rfl ?_
            refine k_getR (t := 86) X fk_X9_43 (by rfl) (by decide) rfl dX9_relatives_64 ?_
            refine k_getR (t := 88) X fk_X9_164 kzC_86 (by decide) rfl dX9_relatives_67 ?_
            refine k_iload_n X dX9_relatives_70 0 rfl ?_
            refine k_afterP (st := []) (fun H locs ls hP hS hl => k_runV (As := [kI v3]) X lk_X9_288 rfl yo_X1_siblings rfl (kR_ok (by decide) (by decide)) (ct_X1_siblings (kCx_j X) 88 kzC_88 _ _ _ h) kzC_88 rfl (Nat.le_of_ble_eq_true rfl) dX9_relatives_71 hP hS hl) (fun v4 h => ?_)
            refine k_i2l X dX9_relatives_74 h (fun h => ?_)
            refine k_goto (tgt := 91) X dX9_relatives_75 (by decide) ?_
            exact k_lret X hrt hlk dX9_relatives_91 h
        · refine k_aload_n X dX9_relatives_45 1 rfl ?_
          refine k_getR (t := 86) X fk_X9_43 (by rfl) (by decide) rfl dX9_relatives_46 ?_
          refine k_getR (t := 88) X fk_X9_164 kzC_86 (by decide) rfl dX9_relatives_49 ?_
          refine k_iload_n X dX9_relatives_52 0 rfl ?_
          refine k_afterP (st := []) (fun H locs ls hP hS hl => k_runV (As := [kI v3]) X lk_X9_285 rfl yo_X1_children rfl (kR_ok (by decide) (by decide)) (ct_X1_children (kCx_j X) 88 kzC_88 _ _ _ h) kzC_88 rfl (Nat.le_of_ble_eq_true rfl) dX9_relatives_53 hP hS hl) (fun v5 h => ?_)
          refine k_i2l X dX9_relatives_56 h (fun h => ?_)
          exact k_lret X hrt hlk dX9_relatives_57 h
      · refine k_ldc2 X (-9223372036854775808) mw775 dX9_relatives_20 ?_
        exact k_lret X hrt hlk dX9_relatives_23 h
set_option maxHeartbeats 4000000 in
set_option maxRecDepth 100000 in
theorem ct_X9_rounds {l : Launch} {D : va_G} {cA : Nat → ClassId} {ad sa : Nat → Nat} (hj : kInj NC ad)  (z : Hp) (Kp : Int → Hp → Prop) (h : cal_X9_rounds  z Kp) : kMet l yX9_rounds cX9_rounds 1 (some .int) 6 NC kdC D cA ad sa [.ref (ad 0)] z (kQi NC kdC D cA ad Kp) := by
  unfold cal_X9_rounds at h
  refine k_met (cc := cX9_rounds) (own := RX9) (nL := 1) rfl rfl (Nat.le_of_ble_eq_true rfl) hj kltC (fun p e s m below meth c X hrt hlk => ?_)
  refine k_sub (lv' := [(0, .ref (ad 0))]) [0] rfl ?_
  refine k_aload_n X dX9_rounds_0 0 rfl ?_
  refine k_afterV (st := []) (fun H locs ls hP hS hl => k_runV (As := []) X lk_X9_161 rfl yo_X9_settle rfl (kR_ok (by decide) (by decide)) (ct_X9_settle (kCx_j X)  _ _ h) (by rfl) rfl (Nat.le_of_ble_eq_true rfl) dX9_rounds_1 hP hS hl) (fun z1 h => ?_)
  refine k_aload_n X dX9_rounds_4 0 rfl ?_
  refine k_getR (t := 86) X fk_X9_43 (by rfl) (by decide) rfl dX9_rounds_5 ?_
  refine k_getR (t := 99) X fk_X9_181 kzC_86 (by decide) rfl dX9_rounds_8 ?_
  refine k_getI X fk_X9_234 kzC_99 rfl dX9_rounds_11 ?_
  exact k_iret X hrt hlk dX9_rounds_14 h
set_option maxHeartbeats 4000000 in
set_option maxRecDepth 100000 in
theorem ct_X9_same {l : Launch} {D : va_G} {cA : Nat → ClassId} {ad sa : Nat → Nat} (hj : kInj NC ad) (a1 : Int) (a2 : Int) (z : Hp) (Kp : Int → Hp → Prop) (h : cal_X9_same a1 a2 z Kp) : kMet l yX9_same cX9_same 3 (some .int) 6 NC kdC D cA ad sa [.ref (ad 0), kI a1, kI a2] z (kQi NC kdC D cA ad Kp) := by
  unfold cal_X9_same at h
  refine k_met (cc := cX9_same) (own := RX9) (nL := 3) rfl rfl (Nat.le_of_ble_eq_true rfl) hj kltC (fun p e s m below meth c X hrt hlk => ?_)
  refine k_sub (lv' := [(0, .ref (ad 0)), (1, kI a1), (2, kI a2)]) [0, 1, 2] rfl ?_
  refine k_aload_n X dX9_same_0 0 rfl ?_
  refine k_iload_n X dX9_same_1 1 rfl ?_
  refine k_iload_n X dX9_same_2 2 rfl ?_
  refine k_afterP (st := []) (fun H locs ls hP hS hl => k_runV (As := [kI a1, kI a2]) X lk_X9_220 rfl yo_X9_arePersons rfl (kR_ok (by decide) (by decide)) (ct_X9_arePersons (kCx_j X) _ _ _ _ h) (by rfl) rfl (Nat.le_of_ble_eq_true rfl) dX9_same_3 hP hS hl) (fun v1 h => ?_)
  refine k_if_eq (tgt := 14) X dX9_same_6 (by decide) h (fun h => ?_) (fun h => ?_)
  · refine k_iconst X dX9_same_14 ?_
    exact k_iret X hrt hlk dX9_same_15 h
  · refine k_iload_n X dX9_same_9 1 rfl ?_
    refine k_iload_n X dX9_same_10 2 rfl ?_
    refine k_icmp_ne (tgt := 16) X dX9_same_11 (by decide) h (fun h => ?_) (fun h => ?_)
    · refine k_aload_n X dX9_same_16 0 rfl ?_
      refine k_getR (t := 85) X fk_X9_36 (by rfl) (by decide) rfl dX9_same_17 ?_
      refine k_iload_n X dX9_same_20 1 rfl ?_
      refine k_iload_n X dX9_same_21 2 rfl ?_
      refine k_afterV (st := []) (fun H locs ls hP hS hl => k_runV (As := [kI a1, kI a2]) X lk_X9_223 rfl yo_X4_makeSame rfl (kR_ok (by decide) (by decide)) (ct_X4_makeSame (kCx_j X) 85 kzC_85 _ _ _ _ h) kzC_85 rfl (Nat.le_of_ble_eq_true rfl) dX9_same_22 hP hS hl) (fun z2 h => ?_)
      refine k_aload_n X dX9_same_25 0 rfl ?_
      refine k_afterV (st := []) (fun H locs ls hP hS hl => k_runV (As := []) X lk_X9_227 rfl yo_X9_workOneMore rfl (kR_ok (by decide) (by decide)) (ct_X9_workOneMore (kCx_j X)  _ _ h) (by rfl) rfl (Nat.le_of_ble_eq_true rfl) dX9_same_26 hP hS hl) (fun z3 h => ?_)
      refine k_aload_n X dX9_same_29 0 rfl ?_
      refine k_getR (t := 109) X fk_X9_47 (by rfl) (by decide) rfl dX9_same_30 ?_
      refine k_getI X fk_X9_205 kzC_109 rfl dX9_same_33 ?_
      exact k_iret X hrt hlk dX9_same_36 h
    · refine k_iconst X dX9_same_14 ?_
      exact k_iret X hrt hlk dX9_same_15 h
set_option maxHeartbeats 4000000 in
set_option maxRecDepth 100000 in
theorem ct_X9_set {l : Launch} {D : va_G} {cA : Nat → ClassId} {ad sa : Nat → Nat} (hj : kInj NC ad) (a1 : Int) (a2 : Int) (a3 : Int) (z : Hp) (Kp : Int → Hp → Prop) (h : cal_X9_set a1 a2 a3 z Kp) : kMet l yX9_set cX9_set 4 (some .int) 1 NC kdC D cA ad sa [.ref (ad 0), kI a1, kI a2, kI a3] z (kQi NC kdC D cA ad Kp) := by
  unfold cal_X9_set at h
  refine k_met (cc := cX9_set) (own := RX9) (nL := 4) rfl rfl (Nat.le_of_ble_eq_true rfl) hj kltC (fun p e s m below meth c X hrt hlk => ?_)
  refine k_sub (lv' := [(0, .ref (ad 0)), (1, kI a1), (2, kI a2), (3, kI a3)]) [0, 1, 2, 3] rfl ?_
  refine k_aload_n X dX9_set_0 0 rfl ?_
  refine k_getR (t := 136) X fk_X9_64 (by rfl) (by decide) rfl dX9_set_1 ?_
  refine k_iload_n X dX9_set_4 1 rfl ?_
  refine k_afterP (st := []) (fun H locs ls hP hS hl => k_runV (As := [kI a1]) X lk_X9_315 rfl yo_X2_isList rfl (kR_ok (by decide) (by decide)) (ct_X2_isList (kCx_j X) 136 kzC_136 _ _ _ h) kzC_136 rfl (Nat.le_of_ble_eq_true rfl) dX9_set_5 hP hS hl) (fun v1 h => ?_)
  refine k_if_ne (tgt := 13) X dX9_set_8 (by decide) h (fun h => ?_) (fun h => ?_)
  · refine k_aload_n X dX9_set_13 0 rfl ?_
    refine k_getR (t := 136) X fk_X9_64 (by rfl) (by decide) rfl dX9_set_14 ?_
    refine k_getR (t := 142) X fk_X9_321 kzC_136 (by decide) rfl dX9_set_17 ?_
    refine k_iload_n X dX9_set_20 1 rfl ?_
    refine k_iald X kzC_142 (Nat.le_of_ble_eq_true rfl) dX9_set_21 h (fun h => ?_)
    refine k_if_ge (tgt := 28) X dX9_set_22 (by decide) h (fun h => ?_) (fun h => ?_)
    · refine k_aload_n X dX9_set_28 0 rfl ?_
      refine k_getR (t := 136) X fk_X9_64 (by rfl) (by decide) rfl dX9_set_29 ?_
      refine k_iload_n X dX9_set_32 1 rfl ?_
      refine k_iload_n X dX9_set_33 2 rfl ?_
      refine k_iconst X dX9_set_34 ?_
      refine k_afterP (st := []) (fun H locs ls hP hS hl => k_runV (As := [kI a1, kI a2, kI 0]) X lk_X9_324 rfl yo_X2_hasPlace rfl (kR_ok (by decide) (by decide)) (ct_X2_hasPlace (kCx_j X) 136 kzC_136 _ _ _ _ _ h) kzC_136 rfl (Nat.le_of_ble_eq_true rfl) dX9_set_35 hP hS hl) (fun v2 h => ?_)
      refine k_if_ne (tgt := 44) X dX9_set_38 (by decide) h (fun h => ?_) (fun h => ?_)
      · refine k_aload_n X dX9_set_44 0 rfl ?_
        refine k_getR (t := 136) X fk_X9_64 (by rfl) (by decide) rfl dX9_set_45 ?_
        refine k_getR (t := 137) X fk_X9_327 kzC_136 (by decide) rfl dX9_set_48 ?_
        refine k_iload_n X dX9_set_51 1 rfl ?_
        have hb3 := h.1
        refine k_aald X kzC_137 rfl rfl (Nat.le_of_ble_eq_true rfl) dX9_set_52 h (fun h => ?_)
        refine k_iload_n X dX9_set_53 2 rfl ?_
        refine k_iload_n X dX9_set_54 3 rfl ?_
        refine k_iast X (kc_r3 kzC_137 (ki_lt hb3)) (Nat.le_of_ble_eq_true rfl) dX9_set_55 h (fun h => k_nameH h (fun z4 h => ?_))
        refine k_iconst X dX9_set_56 ?_
        exact k_iret X hrt hlk dX9_set_57 h
      · refine k_bipush X dX9_set_41 (by decide +kernel) ?_
        exact k_iret X hrt hlk dX9_set_43 h
    · refine k_bipush X dX9_set_25 (by decide +kernel) ?_
      exact k_iret X hrt hlk dX9_set_27 h
  · refine k_iconst X dX9_set_11 ?_
    exact k_iret X hrt hlk dX9_set_12 h
set_option maxHeartbeats 4000000 in
set_option maxRecDepth 100000 in
theorem ct_X9_sex {l : Launch} {D : va_G} {cA : Nat → ClassId} {ad sa : Nat → Nat} (hj : kInj NC ad) (a1 : Int) (a2 : Int) (z : Hp) (Kp : Int → Hp → Prop) (h : cal_X9_sex a1 a2 z Kp) : kMet l yX9_sex cX9_sex 4 (some .int) 1 NC kdC D cA ad sa [.ref (ad 0), kI a1, kI a2] z (kQi NC kdC D cA ad Kp) := by
  unfold cal_X9_sex at h
  refine k_met (cc := cX9_sex) (own := RX9) (nL := 4) rfl rfl (Nat.le_of_ble_eq_true rfl) hj kltC (fun p e s m below meth c X hrt hlk => ?_)
  refine k_sub (lv' := [(0, .ref (ad 0)), (1, kI a1), (2, kI a2)]) [0, 1, 2] rfl ?_
  refine k_aload_n X dX9_sex_0 0 rfl ?_
  refine k_getR (t := 1) X fk_X9_14 (by rfl) (by decide) rfl dX9_sex_1 ?_
  refine k_iload_n X dX9_sex_4 1 rfl ?_
  refine k_afterP (st := []) (fun H locs ls hP hS hl => k_runV (As := [kI a1]) X lk_X9_100 rfl yo_X0_isPerson rfl (kR_ok (by decide) (by decide)) (ct_X0_isPerson (kCx_j X) 1 kzC_1 _ _ _ h) kzC_1 rfl (Nat.le_of_ble_eq_true rfl) dX9_sex_5 hP hS hl) (fun v1 h => ?_)
  refine k_if_eq (tgt := 18) X dX9_sex_8 (by decide) h (fun h => ?_) (fun h => ?_)
  · refine k_iconst X dX9_sex_18 ?_
    exact k_iret X hrt hlk dX9_sex_19 h
  · refine k_iload_n X dX9_sex_11 2 rfl ?_
    refine k_afterP (st := []) (fun H locs ls hP hS hl => k_runS (As := [kI a2]) X lk_X9_82 yo_X9_isSex rfl (kR_ok (by decide) (by decide)) (ct_X9_isSex (kCx_j X) _ _ _ h) (Nat.le_of_ble_eq_true rfl) dX9_sex_12 hP hS hl) (fun v2 h => ?_)
    refine k_if_ne (tgt := 20) X dX9_sex_15 (by decide) h (fun h => ?_) (fun h => ?_)
    · refine k_aload_n X dX9_sex_20 0 rfl ?_
      refine k_getR (t := 1) X fk_X9_14 (by rfl) (by decide) rfl dX9_sex_21 ?_
      refine k_getR (t := 34) X fk_X9_103 kzC_1 (by decide) rfl dX9_sex_24 ?_
      refine k_iload_n X dX9_sex_27 1 rfl ?_
      refine k_iald X kzC_34 (Nat.le_of_ble_eq_true rfl) dX9_sex_28 h (fun h => ?_)
      refine k_istore_n X dX9_sex_29 h (fun v3 => [(3, kI v3), (0, .ref (ad 0)), (1, kI a1), (2, kI a2)]) (by decide) (fun _ => rfl) (fun v3 h => ?_)
      refine k_aload_n X dX9_sex_30 1 rfl ?_
      refine k_getR (t := 1) X fk_X9_14 (by rfl) (by decide) rfl dX9_sex_31 ?_
      refine k_getR (t := 34) X fk_X9_103 kzC_1 (by decide) rfl dX9_sex_34 ?_
      refine k_iload_n X dX9_sex_37 2 rfl ?_
      refine k_iload_n X dX9_sex_38 3 rfl ?_
      refine k_iast X kzC_34 (Nat.le_of_ble_eq_true rfl) dX9_sex_39 h (fun h => k_nameH h (fun z4 h => ?_))
      refine k_aload_n X dX9_sex_40 1 rfl ?_
      refine k_afterV (st := []) (fun H locs ls hP hS hl => k_runV (As := []) X lk_X9_97 rfl yo_X9_unsettle rfl (kR_ok (by decide) (by decide)) (ct_X9_unsettle (kCx_j X)  _ _ h) (by rfl) rfl (Nat.le_of_ble_eq_true rfl) dX9_sex_41 hP hS hl) (fun z5 h => ?_)
      refine k_iload_n X dX9_sex_44 0 rfl ?_
      exact k_iret X hrt hlk dX9_sex_45 h
    · refine k_iconst X dX9_sex_18 ?_
      exact k_iret X hrt hlk dX9_sex_19 h
set_option maxHeartbeats 4000000 in
set_option maxRecDepth 100000 in
theorem ct_X9_spell {l : Launch} {D : va_G} {cA : Nat → ClassId} {ad sa : Nat → Nat} (hj : kInj NC ad) (a1 : Int) (z : Hp) (Kp : Int → Hp → Prop) (h : cal_X9_spell a1 z Kp) : kMet l yX9_spell cX9_spell 2 (some .int) 4 NC kdC D cA ad sa [.ref (ad 0), kI a1] z (kQi NC kdC D cA ad Kp) := by
  unfold cal_X9_spell at h
  refine k_met (cc := cX9_spell) (own := RX9) (nL := 2) rfl rfl (Nat.le_of_ble_eq_true rfl) hj kltC (fun p e s m below meth c X hrt hlk => ?_)
  refine k_sub (lv' := [(0, .ref (ad 0)), (1, kI a1)]) [0, 1] rfl ?_
  refine k_aload_n X dX9_spell_0 0 rfl ?_
  refine k_getR (t := 1) X fk_X9_14 (by rfl) (by decide) rfl dX9_spell_1 ?_
  refine k_iload_n X dX9_spell_4 1 rfl ?_
  refine k_afterP (st := []) (fun H locs ls hP hS hl => k_runV (As := [kI a1]) X lk_X9_123 rfl yo_X0_isStatement rfl (kR_ok (by decide) (by decide)) (ct_X0_isStatement (kCx_j X) 1 kzC_1 _ _ _ h) kzC_1 rfl (Nat.le_of_ble_eq_true rfl) dX9_spell_5 hP hS hl) (fun v1 h => ?_)
  refine k_if_ne (tgt := 13) X dX9_spell_8 (by decide) h (fun h => ?_) (fun h => ?_)
  · refine k_aload_n X dX9_spell_13 0 rfl ?_
    refine k_getR (t := 83) X fk_X9_30 (by rfl) (by decide) rfl dX9_spell_14 ?_
    refine k_afterV (st := []) (fun H locs ls hP hS hl => k_runV (As := []) X lk_X9_75 rfl yo_X5_wipe rfl (kR_ok (by decide) (by decide)) (ct_X5_wipe (kCx_j X) 83 kzC_83 _ _ h) kzC_83 rfl (Nat.le_of_ble_eq_true rfl) dX9_spell_17 hP hS hl) (fun z2 h => ?_)
    refine k_aload_n X dX9_spell_20 0 rfl ?_
    refine k_getR (t := 1) X fk_X9_14 (by rfl) (by decide) rfl dX9_spell_21 ?_
    refine k_aload_n X dX9_spell_24 0 rfl ?_
    refine k_getR (t := 83) X fk_X9_30 (by rfl) (by decide) rfl dX9_spell_25 ?_
    refine k_iload_n X dX9_spell_28 1 rfl ?_
    refine k_afterV (st := []) (fun H locs ls hP hS hl => k_runV (As := [.ref (ad 83), kI a1]) X lk_X9_144 rfl yo_X0_spellInto rfl (kR_ok (by decide) (by decide)) (ct_X0_spellInto (kCx_j X) 1 kzC_1 83 kzC_83 _ _ _ h) kzC_1 rfl (Nat.le_of_ble_eq_true rfl) dX9_spell_29 hP hS hl) (fun z3 h => ?_)
    refine k_aload_n X dX9_spell_32 0 rfl ?_
    refine k_getR (t := 83) X fk_X9_30 (by rfl) (by decide) rfl dX9_spell_33 ?_
    refine k_getI X fk_X9_68 kzC_83 rfl dX9_spell_36 ?_
    exact k_iret X hrt hlk dX9_spell_39 h
  · refine k_iconst X dX9_spell_11 ?_
    exact k_iret X hrt hlk dX9_spell_12 h
set_option maxHeartbeats 4000000 in
set_option maxRecDepth 100000 in
theorem ct_X9_state {l : Launch} {D : va_G} {cA : Nat → ClassId} {ad sa : Nat → Nat} (hj : kInj NC ad) (a1 : Int) (z : Hp) (Kp : Int → Hp → Prop) (h : cal_X9_state a1 z Kp) : kMet l yX9_state cX9_state 4 (some .int) 4 NC kdC D cA ad sa [.ref (ad 0), kI a1] z (kQi NC kdC D cA ad Kp) := by
  unfold cal_X9_state at h
  refine k_met (cc := cX9_state) (own := RX9) (nL := 4) rfl rfl (Nat.le_of_ble_eq_true rfl) hj kltC (fun p e s m below meth c X hrt hlk => ?_)
  refine k_sub (lv' := [(0, .ref (ad 0)), (1, kI a1)]) [0, 1] rfl ?_
  refine k_iload_n X dX9_state_0 1 rfl ?_
  refine k_afterP (st := []) (fun H locs ls hP hS hl => k_runS (As := [kI a1]) X lk_X9_106 yo_X9_isFlag rfl (kR_ok (by decide) (by decide)) (ct_X9_isFlag (kCx_j X) _ _ _ h) (Nat.le_of_ble_eq_true rfl) dX9_state_1 hP hS hl) (fun v1 h => ?_)
  refine k_if_ne (tgt := 9) X dX9_state_4 (by decide) h (fun h => ?_) (fun h => ?_)
  · refine k_aload_n X dX9_state_9 0 rfl ?_
    refine k_getR (t := 1) X fk_X9_14 (by rfl) (by decide) rfl dX9_state_10 ?_
    refine k_getI X fk_X9_109 kzC_1 rfl dX9_state_13 ?_
    refine k_bipush X dX9_state_16 (by decide +kernel) ?_
    refine k_icmp_lt (tgt := 24) X dX9_state_18 (by decide) ⟨h.1, ⟨by decide, by decide⟩, h.2⟩ (fun h => ?_) (fun h => ?_)
    · refine k_aload_n X dX9_state_24 0 rfl ?_
      refine k_getR (t := 1) X fk_X9_14 (by rfl) (by decide) rfl dX9_state_25 ?_
      refine k_getI X fk_X9_109 kzC_1 rfl dX9_state_28 ?_
      refine k_istore_n X dX9_state_31 h (fun v2 => [(2, kI v2), (0, .ref (ad 0)), (1, kI a1)]) (by decide) (fun _ => rfl) (fun v2 h => ?_)
      refine k_aload_n X dX9_state_32 1 rfl ?_
      refine k_getR (t := 85) X fk_X9_36 (by rfl) (by decide) rfl dX9_state_33 ?_
      refine k_aload_n X dX9_state_36 1 rfl ?_
      refine k_getR (t := 81) X fk_X9_26 (by rfl) (by decide) rfl dX9_state_37 ?_
      refine k_aload_n X dX9_state_40 1 rfl ?_
      refine k_getR (t := 1) X fk_X9_14 (by rfl) (by decide) rfl dX9_state_41 ?_
      refine k_getI X fk_X9_86 kzC_1 rfl dX9_state_44 ?_
      refine k_afterI (st := []) (fun H locs ls hP hS hl => k_runV (As := [.ref (ad 81), kI (z 1 0)]) X lk_X9_112 rfl yo_X4_reads rfl (kR_ok (by decide) (by decide)) (ct_X4_reads (kCx_j X) 85 kzC_85 81 kzC_81 _ _ _ h) kzC_85 rfl (Nat.le_of_ble_eq_true rfl) dX9_state_47 hP hS hl) (fun v4 z3 h => ?_)
      refine k_istore_n X dX9_state_50 h (fun v5 => [(3, kI v5), (2, kI v2), (0, .ref (ad 0)), (1, kI a1)]) (by decide) (fun _ => rfl) (fun v5 h => ?_)
      refine k_aload_n X dX9_state_51 2 rfl ?_
      refine k_getR (t := 81) X fk_X9_26 (by rfl) (by decide) rfl dX9_state_52 ?_
      refine k_afterV (st := []) (fun H locs ls hP hS hl => k_runV (As := []) X lk_X9_75 rfl yo_X5_wipe rfl (kR_ok (by decide) (by decide)) (ct_X5_wipe (kCx_j X) 81 kzC_81 _ _ h) kzC_81 rfl (Nat.le_of_ble_eq_true rfl) dX9_state_55 hP hS hl) (fun z6 h => ?_)
      refine k_iload_n X dX9_state_58 0 rfl ?_
      refine k_if_ne (tgt := 73) X dX9_state_59 (by decide) h (fun h => ?_) (fun h => ?_)
      · refine k_aload_n X dX9_state_73 2 rfl ?_
        refine k_getR (t := 1) X fk_X9_14 (by rfl) (by decide) rfl dX9_state_74 ?_
        refine k_iload_n X dX9_state_77 1 rfl ?_
        refine k_aload_n X dX9_state_78 2 rfl ?_
        refine k_getR (t := 85) X fk_X9_36 (by rfl) (by decide) rfl dX9_state_79 ?_
        refine k_iload_n X dX9_state_82 3 rfl ?_
        refine k_afterV (st := []) (fun H locs ls hP hS hl => k_runV (As := [kI v2, .ref (ad 85), kI a1]) X lk_X9_119 rfl yo_X0_write rfl (kR_ok (by decide) (by decide)) (ct_X0_write (kCx_j X) 1 kzC_1 _ 85 kzC_85 _ _ _ h) kzC_1 rfl (Nat.le_of_ble_eq_true rfl) dX9_state_83 hP hS hl) (fun z7 h => ?_)
        refine k_aload_n X dX9_state_86 2 rfl ?_
        refine k_getR (t := 1) X fk_X9_14 (by rfl) (by decide) rfl dX9_state_87 ?_
        refine k_iload_n X dX9_state_90 1 rfl ?_
        refine k_iconst X dX9_state_91 ?_
        refine k_iadd X dX9_state_92 ?_
        refine k_putI X fp_X9_109 kzC_1 rfl dX9_state_93 (k_nameH h (fun z8 h => ?_))
        refine k_aload_n X dX9_state_96 2 rfl ?_
        refine k_afterV (st := []) (fun H locs ls hP hS hl => k_runV (As := []) X lk_X9_97 rfl yo_X9_unsettle rfl (kR_ok (by decide) (by decide)) (ct_X9_unsettle (kCx_j X)  _ _ h) (by rfl) rfl (Nat.le_of_ble_eq_true rfl) dX9_state_97 hP hS hl) (fun z9 h => ?_)
        refine k_iload_n X dX9_state_100 1 rfl ?_
        exact k_iret X hrt hlk dX9_state_101 h
      · refine k_bipush X dX9_state_62 (by decide +kernel) ?_
        refine k_aload_n X dX9_state_64 2 rfl ?_
        refine k_getR (t := 85) X fk_X9_36 (by rfl) (by decide) rfl dX9_state_65 ?_
        refine k_getI X fk_X9_116 kzC_85 rfl dX9_state_68 ?_
        refine k_isub X dX9_state_71 ?_
        exact k_iret X hrt hlk dX9_state_72 h
    · refine k_bipush X dX9_state_21 (by decide +kernel) ?_
      exact k_iret X hrt hlk dX9_state_23 h
  · refine k_iconst X dX9_state_7 ?_
    exact k_iret X hrt hlk dX9_state_8 h
set_option maxHeartbeats 4000000 in
set_option maxRecDepth 100000 in
theorem ct_X9_title {l : Launch} {D : va_G} {cA : Nat → ClassId} {ad sa : Nat → Nat} (hj : kInj NC ad) (a1 : Int) (a2 : Int) (z : Hp) (Kp : Int → Hp → Prop) (h : cal_X9_title a1 a2 z Kp) : kMet l yX9_title cX9_title 4 (some .int) 8 NC kdC D cA ad sa [.ref (ad 0), kI a1, kI a2] z (kQi NC kdC D cA ad Kp) := by
  unfold cal_X9_title at h
  refine k_met (cc := cX9_title) (own := RX9) (nL := 4) rfl rfl (Nat.le_of_ble_eq_true rfl) hj kltC (fun p e s m below meth c X hrt hlk => ?_)
  refine k_sub (lv' := [(0, .ref (ad 0)), (1, kI a1), (2, kI a2)]) [0, 1, 2] rfl ?_
  refine k_aload_n X dX9_title_0 0 rfl ?_
  refine k_iload_n X dX9_title_1 1 rfl ?_
  refine k_iload_n X dX9_title_2 2 rfl ?_
  refine k_afterP (st := []) (fun H locs ls hP hS hl => k_runV (As := [kI a1, kI a2]) X lk_X9_220 rfl yo_X9_arePersons rfl (kR_ok (by decide) (by decide)) (ct_X9_arePersons (kCx_j X) _ _ _ _ h) (by rfl) rfl (Nat.le_of_ble_eq_true rfl) dX9_title_3 hP hS hl) (fun v1 h => ?_)
  refine k_if_ne (tgt := 11) X dX9_title_6 (by decide) h (fun h => ?_) (fun h => ?_)
  · refine k_aload_n X dX9_title_11 0 rfl ?_
    refine k_afterV (st := []) (fun H locs ls hP hS hl => k_runV (As := []) X lk_X9_161 rfl yo_X9_settle rfl (kR_ok (by decide) (by decide)) (ct_X9_settle (kCx_j X)  _ _ h) (by rfl) rfl (Nat.le_of_ble_eq_true rfl) dX9_title_12 hP hS hl) (fun z2 h => ?_)
    refine k_aload_n X dX9_title_15 0 rfl ?_
    refine k_iload_n X dX9_title_16 1 rfl ?_
    refine k_iload_n X dX9_title_17 2 rfl ?_
    refine k_afterV (st := []) (fun H locs ls hP hS hl => k_runV (As := [kI a1, kI a2]) X lk_X9_237 rfl yo_X9_seekWays rfl (kR_ok (by decide) (by decide)) (ct_X9_seekWays (kCx_j X) _ _ _ _ h) (by rfl) rfl (Nat.le_of_ble_eq_true rfl) dX9_title_18 hP hS hl) (fun z3 h => ?_)
    refine k_aload_n X dX9_title_21 0 rfl ?_
    refine k_getR (t := 83) X fk_X9_30 (by rfl) (by decide) rfl dX9_title_22 ?_
    refine k_afterV (st := []) (fun H locs ls hP hS hl => k_runV (As := []) X lk_X9_75 rfl yo_X5_wipe rfl (kR_ok (by decide) (by decide)) (ct_X5_wipe (kCx_j X) 83 kzC_83 _ _ h) kzC_83 rfl (Nat.le_of_ble_eq_true rfl) dX9_title_25 hP hS hl) (fun z4 h => ?_)
    refine k_aload_n X dX9_title_28 0 rfl ?_
    refine k_getR (t := 86) X fk_X9_43 (by rfl) (by decide) rfl dX9_title_29 ?_
    refine k_getR (t := 88) X fk_X9_164 kzC_86 (by decide) rfl dX9_title_32 ?_
    refine k_getR (t := 91) X fk_X9_253 kzC_88 (by decide) rfl dX9_title_35 ?_
    refine k_aload_n X dX9_title_38 0 rfl ?_
    refine k_getR (t := 86) X fk_X9_43 (by rfl) (by decide) rfl dX9_title_39 ?_
    refine k_getR (t := 88) X fk_X9_164 kzC_86 (by decide) rfl dX9_title_42 ?_
    refine k_getR (t := 89) X fk_X9_168 kzC_88 (by decide) rfl dX9_title_45 ?_
    refine k_iload_n X dX9_title_48 2 rfl ?_
    refine k_iald X kzC_89 (Nat.le_of_ble_eq_true rfl) dX9_title_49 h (fun h => ?_)
    refine k_iald X kzC_91 (Nat.le_of_ble_eq_true rfl) dX9_title_50 h (fun h => ?_)
    refine k_istore_n X dX9_title_51 h (fun v5 => [(3, kI v5), (0, .ref (ad 0)), (1, kI a1), (2, kI a2)]) (by decide) (fun _ => rfl) (fun v5 h => ?_)
    refine k_aload_n X dX9_title_52 1 rfl ?_
    refine k_getR (t := 133) X fk_X9_57 (by rfl) (by decide) rfl dX9_title_53 ?_
    refine k_getI X fk_X9_240 kzC_133 rfl dX9_title_56 ?_
    refine k_if_lt (tgt := 91) X dX9_title_59 (by decide) h (fun h => ?_) (fun h => ?_)
    · refine k_aload_n X dX9_title_91 1 rfl ?_
      refine k_getR (t := 86) X fk_X9_43 (by rfl) (by decide) rfl dX9_title_92 ?_
      refine k_getR (t := 88) X fk_X9_164 kzC_86 (by decide) rfl dX9_title_95 ?_
      refine k_aload_n X dX9_title_98 1 rfl ?_
      refine k_getR (t := 86) X fk_X9_43 (by rfl) (by decide) rfl dX9_title_99 ?_
      refine k_getR (t := 88) X fk_X9_164 kzC_86 (by decide) rfl dX9_title_102 ?_
      refine k_getR (t := 89) X fk_X9_168 kzC_88 (by decide) rfl dX9_title_105 ?_
      refine k_iload_n X dX9_title_108 2 rfl ?_
      refine k_iald X kzC_89 (Nat.le_of_ble_eq_true rfl) dX9_title_109 h (fun h => ?_)
      refine k_aload_n X dX9_title_110 1 rfl ?_
      refine k_getR (t := 86) X fk_X9_43 (by rfl) (by decide) rfl dX9_title_111 ?_
      refine k_getR (t := 88) X fk_X9_164 kzC_86 (by decide) rfl dX9_title_114 ?_
      refine k_getR (t := 89) X fk_X9_168 kzC_88 (by decide) rfl dX9_title_117 ?_
      refine k_iload_n X dX9_title_120 3 rfl ?_
      refine k_iald X kzC_89 (Nat.le_of_ble_eq_true rfl) dX9_title_121 h (fun h => ?_)
      refine k_afterP (st := []) (fun H locs ls hP hS hl => k_runV (As := [kI (z4 89 a1.toNat), kI (z4 89 a2.toNat)]) X lk_X9_260 rfl yo_X1_areMarried rfl (kR_ok (by decide) (by decide)) (ct_X1_areMarried (kCx_j X) 88 kzC_88 _ _ _ _ h) kzC_88 rfl (Nat.le_of_ble_eq_true rfl) dX9_title_122 hP hS hl) (fun v6 h => ?_)
      refine k_if_eq (tgt := 148) X dX9_title_125 (by decide) h (fun h => ?_) (fun h => ?_)
      · refine k_aload_n X dX9_title_148 1 rfl ?_
        refine k_getR (t := 83) X fk_X9_30 (by rfl) (by decide) rfl dX9_title_149 ?_
        refine k_ldcSw X (k := 22) (by decide) rfl rfl dX9_title_152 ?_
        refine k_afterV (st := []) (fun H locs ls hP hS hl => k_runV (As := [.ref (sa 22)]) X lk_X9_275 rfl yo_X5_putAll rfl (kR_ok (by decide) (by decide)) (ct_X5_putAll (kCx_j X) 83 kzC_83 22 (by decide) _ _ h) kzC_83 rfl (Nat.le_of_ble_eq_true rfl) dX9_title_155 hP hS hl) (fun z7 h => ?_)
        refine k_aload_n X dX9_title_158 1 rfl ?_
        refine k_getR (t := 83) X fk_X9_30 (by rfl) (by decide) rfl dX9_title_159 ?_
        refine k_getI X fk_X9_68 kzC_83 rfl dX9_title_162 ?_
        exact k_iret X hrt hlk dX9_title_165 h
      · refine k_aload_n X dX9_title_128 1 rfl ?_
        refine k_getR (t := 83) X fk_X9_30 (by rfl) (by decide) rfl dX9_title_129 ?_
        refine k_iload_n X dX9_title_132 0 rfl ?_
        refine k_ldcSw X (k := 19) (by decide) rfl rfl dX9_title_133 ?_
        refine k_ldcSw X (k := 20) (by decide) rfl rfl dX9_title_136 ?_
        refine k_ldcSw X (k := 21) (by decide) rfl rfl dX9_title_139 ?_
        refine k_afterV (st := []) (fun H locs ls hP hS hl => k_runS (As := [.ref (ad 83), kI v5, .ref (sa 19), .ref (sa 20), .ref (sa 21)]) X lk_X9_269 yo_X6_putBySex rfl (kR_ok (by decide) (by decide)) (ct_X6_putBySex (kCx_j X) 83 kzC_83 _ 19 (by decide) 20 (by decide) 21 (by decide) _ _ h) (Nat.le_of_ble_eq_true rfl) dX9_title_142 hP hS hl) (fun z8 h => ?_)
        refine k_goto (tgt := 158) X dX9_title_145 (by decide) ?_
        refine k_aload_n X dX9_title_158 1 rfl ?_
        refine k_getR (t := 83) X fk_X9_30 (by rfl) (by decide) rfl dX9_title_159 ?_
        refine k_getI X fk_X9_68 kzC_83 rfl dX9_title_162 ?_
        exact k_iret X hrt hlk dX9_title_165 h
    · refine k_aload_n X dX9_title_62 1 rfl ?_
      refine k_getR (t := 83) X fk_X9_30 (by rfl) (by decide) rfl dX9_title_63 ?_
      refine k_aload_n X dX9_title_66 1 rfl ?_
      refine k_getR (t := 133) X fk_X9_57 (by rfl) (by decide) rfl dX9_title_67 ?_
      refine k_aload_n X dX9_title_70 1 rfl ?_
      refine k_getR (t := 133) X fk_X9_57 (by rfl) (by decide) rfl dX9_title_71 ?_
      refine k_aload_n X dX9_title_74 1 rfl ?_
      refine k_getR (t := 86) X fk_X9_43 (by rfl) (by decide) rfl dX9_title_75 ?_
      refine k_getR (t := 88) X fk_X9_164 kzC_86 (by decide) rfl dX9_title_78 ?_
      refine k_afterP (st := [.ref (ad 133), .ref (ad 83)]) (fun H locs ls hP hS hl => k_runV (As := [.ref (ad 88)]) X lk_X9_249 rfl yo_X7_isHalf rfl (kR_ok (by decide) (by decide)) (ct_X7_isHalf (kCx_j X) 133 kzC_133 88 kzC_88 _ _ h) kzC_133 rfl (Nat.le_of_ble_eq_true rfl) dX9_title_81 hP hS hl) (fun v9 h => ?_)
      refine k_iload_n X dX9_title_84 0 rfl ?_
      refine k_afterV (st := []) (fun H locs ls hP hS hl => k_runS (As := [.ref (ad 83), .ref (ad 133), kI v9, kI v5]) X lk_X9_254 yo_X6_putKin rfl (kR_ok (by decide) (by decide)) (ct_X6_putKin (kCx_j X) 83 kzC_83 133 kzC_133 _ _ _ _ h) (Nat.le_of_ble_eq_true rfl) dX9_title_85 hP hS hl) (fun z10 h => ?_)
      refine k_goto (tgt := 158) X dX9_title_88 (by decide) ?_
      refine k_aload_n X dX9_title_158 1 rfl ?_
      refine k_getR (t := 83) X fk_X9_30 (by rfl) (by decide) rfl dX9_title_159 ?_
      refine k_getI X fk_X9_68 kzC_83 rfl dX9_title_162 ?_
      exact k_iret X hrt hlk dX9_title_165 h
  · refine k_iconst X dX9_title_9 ?_
    exact k_iret X hrt hlk dX9_title_10 h
set_option maxHeartbeats 4000000 in
set_option maxRecDepth 100000 in
theorem ct_X9_told {l : Launch} {D : va_G} {cA : Nat → ClassId} {ad sa : Nat → Nat} (hj : kInj NC ad) (a1 : Int) (z : Hp) (Kp : Int → Hp → Prop) (h : cal_X9_told a1 z Kp) : kMet l yX9_told cX9_told 2 (some .int) 6 NC kdC D cA ad sa [.ref (ad 0), kI a1] z (kQi NC kdC D cA ad Kp) := by
  unfold cal_X9_told at h
  refine k_met (cc := cX9_told) (own := RX9) (nL := 2) rfl rfl (Nat.le_of_ble_eq_true rfl) hj kltC (fun p e s m below meth c X hrt hlk => ?_)
  refine k_sub (lv' := [(0, .ref (ad 0)), (1, kI a1)]) [0, 1] rfl ?_
  refine k_aload_n X dX9_told_0 0 rfl ?_
  refine k_afterV (st := []) (fun H locs ls hP hS hl => k_runV (As := []) X lk_X9_161 rfl yo_X9_settle rfl (kR_ok (by decide) (by decide)) (ct_X9_settle (kCx_j X)  _ _ h) (by rfl) rfl (Nat.le_of_ble_eq_true rfl) dX9_told_1 hP hS hl) (fun z1 h => ?_)
  refine k_iload_n X dX9_told_4 1 rfl ?_
  obtain ⟨hr4, h⟩ := h
  by_cases q5 : a1 = 0
  · rw [if_pos q5] at h
    refine k_swin (tgt := 52) X dX9_told_5 hr4 q5 (by decide) (by decide) rfl (by decide) ?_
    refine k_aload_n X dX9_told_52 0 rfl ?_
    refine k_getR (t := 1) X fk_X9_14 (by rfl) (by decide) rfl dX9_told_53 ?_
    refine k_getI X fk_X9_86 kzC_1 rfl dX9_told_56 ?_
    exact k_iret X hrt hlk dX9_told_59 h
  rw [if_neg q5] at h
  by_cases q6 : a1 = 1
  · rw [if_pos q6] at h
    refine k_swin (tgt := 60) X dX9_told_5 hr4 q6 (by decide) (by decide) rfl (by decide) ?_
    refine k_aload_n X dX9_told_60 0 rfl ?_
    refine k_getR (t := 86) X fk_X9_43 (by rfl) (by decide) rfl dX9_told_61 ?_
    refine k_getR (t := 88) X fk_X9_164 kzC_86 (by decide) rfl dX9_told_64 ?_
    refine k_getI X fk_X9_300 kzC_88 rfl dX9_told_67 ?_
    exact k_iret X hrt hlk dX9_told_70 h
  rw [if_neg q6] at h
  by_cases q7 : a1 = 2
  · rw [if_pos q7] at h
    refine k_swin (tgt := 71) X dX9_told_5 hr4 q7 (by decide) (by decide) rfl (by decide) ?_
    refine k_aload_n X dX9_told_71 0 rfl ?_
    refine k_getR (t := 1) X fk_X9_14 (by rfl) (by decide) rfl dX9_told_72 ?_
    refine k_getI X fk_X9_109 kzC_1 rfl dX9_told_75 ?_
    exact k_iret X hrt hlk dX9_told_78 h
  rw [if_neg q7] at h
  by_cases q8 : a1 = 3
  · rw [if_pos q8] at h
    refine k_swin (tgt := 79) X dX9_told_5 hr4 q8 (by decide) (by decide) rfl (by decide) ?_
    refine k_aload_n X dX9_told_79 0 rfl ?_
    refine k_getR (t := 86) X fk_X9_43 (by rfl) (by decide) rfl dX9_told_80 ?_
    refine k_getI X fk_X9_306 kzC_86 rfl dX9_told_83 ?_
    exact k_iret X hrt hlk dX9_told_86 h
  rw [if_neg q8] at h
  by_cases q9 : a1 = 4
  · rw [if_pos q9] at h
    refine k_swin (tgt := 87) X dX9_told_5 hr4 q9 (by decide) (by decide) rfl (by decide) ?_
    refine k_aload_n X dX9_told_87 0 rfl ?_
    refine k_getR (t := 81) X fk_X9_26 (by rfl) (by decide) rfl dX9_told_88 ?_
    refine k_getI X fk_X9_68 kzC_81 rfl dX9_told_91 ?_
    exact k_iret X hrt hlk dX9_told_94 h
  rw [if_neg q9] at h
  by_cases q10 : a1 = 5
  · rw [if_pos q10] at h
    refine k_swin (tgt := 95) X dX9_told_5 hr4 q10 (by decide) (by decide) rfl (by decide) ?_
    refine k_aload_n X dX9_told_95 0 rfl ?_
    refine k_getR (t := 83) X fk_X9_30 (by rfl) (by decide) rfl dX9_told_96 ?_
    refine k_getI X fk_X9_68 kzC_83 rfl dX9_told_99 ?_
    exact k_iret X hrt hlk dX9_told_102 h
  rw [if_neg q10] at h
  by_cases q11 : a1 = 6
  · rw [if_pos q11] at h
    refine k_swin (tgt := 103) X dX9_told_5 hr4 q11 (by decide) (by decide) rfl (by decide) ?_
    refine k_aload_n X dX9_told_103 0 rfl ?_
    refine k_getR (t := 1) X fk_X9_14 (by rfl) (by decide) rfl dX9_told_104 ?_
    refine k_afterP (st := []) (fun H locs ls hP hS hl => k_runV (As := []) X lk_X9_309 rfl yo_X0_unlikeNames rfl (kR_ok (by decide) (by decide)) (ct_X0_unlikeNames (kCx_j X) 1 kzC_1 _ _ h) kzC_1 rfl (Nat.le_of_ble_eq_true rfl) dX9_told_107 hP hS hl) (fun v2 h => ?_)
    exact k_iret X hrt hlk dX9_told_110 h
  rw [if_neg q11] at h
  by_cases q12 : a1 = 7
  · rw [if_pos q12] at h
    refine k_swin (tgt := 111) X dX9_told_5 hr4 q12 (by decide) (by decide) rfl (by decide) ?_
    refine k_aload_n X dX9_told_111 0 rfl ?_
    refine k_getR (t := 86) X fk_X9_43 (by rfl) (by decide) rfl dX9_told_112 ?_
    refine k_getR (t := 88) X fk_X9_164 kzC_86 (by decide) rfl dX9_told_115 ?_
    refine k_afterP (st := []) (fun H locs ls hP hS hl => k_runV (As := []) X lk_X9_312 rfl yo_X1_greatestGeneration rfl (kR_ok (by decide) (by decide)) (ct_X1_greatestGeneration (kCx_j X) 88 kzC_88 _ _ h) kzC_88 rfl (Nat.le_of_ble_eq_true rfl) dX9_told_118 hP hS hl) (fun v3 h => ?_)
    exact k_iret X hrt hlk dX9_told_121 h
  rw [if_neg q12] at h
  refine k_swout (tgt := 122) X dX9_told_5 hr4 (by omega) (by decide) ?_
  refine k_iconst X dX9_told_122 ?_
  exact k_iret X hrt hlk dX9_told_123 h
set_option maxHeartbeats 4000000 in
set_option maxRecDepth 100000 in
theorem ct_X9_undo {l : Launch} {D : va_G} {cA : Nat → ClassId} {ad sa : Nat → Nat} (hj : kInj NC ad)  (z : Hp) (Kp : Int → Hp → Prop) (h : cal_X9_undo  z Kp) : kMet l yX9_undo cX9_undo 1 (some .int) 2 NC kdC D cA ad sa [.ref (ad 0)] z (kQi NC kdC D cA ad Kp) := by
  unfold cal_X9_undo at h
  refine k_met (cc := cX9_undo) (own := RX9) (nL := 1) rfl rfl (Nat.le_of_ble_eq_true rfl) hj kltC (fun p e s m below meth c X hrt hlk => ?_)
  refine k_sub (lv' := [(0, .ref (ad 0))]) [0] rfl ?_
  refine k_aload_n X dX9_undo_0 0 rfl ?_
  refine k_getI X fk_X9_335 (by rfl) rfl dX9_undo_1 ?_
  refine k_if_ne (tgt := 10) X dX9_undo_4 (by decide) h (fun h => ?_) (fun h => ?_)
  · refine k_aload_n X dX9_undo_10 0 rfl ?_
    refine k_getR (t := 1) X fk_X9_14 (by rfl) (by decide) rfl dX9_undo_11 ?_
    refine k_aload_n X dX9_undo_14 0 rfl ?_
    refine k_getR (t := 41) X fk_X9_18 (by rfl) (by decide) rfl dX9_undo_15 ?_
    refine k_afterV (st := []) (fun H locs ls hP hS hl => k_runV (As := [.ref (ad 41)]) X lk_X9_331 rfl yo_X0_copyFrom rfl (kR_ok (by decide) (by decide)) (ct_X0_copyFrom (kCx_j X) 1 kzC_1 41 kzC_41 _ _ h) kzC_1 rfl (Nat.le_of_ble_eq_true rfl) dX9_undo_18 hP hS hl) (fun z1 h => ?_)
    refine k_aload_n X dX9_undo_21 0 rfl ?_
    refine k_afterV (st := []) (fun H locs ls hP hS hl => k_runV (As := []) X lk_X9_97 rfl yo_X9_unsettle rfl (kR_ok (by decide) (by decide)) (ct_X9_unsettle (kCx_j X)  _ _ h) (by rfl) rfl (Nat.le_of_ble_eq_true rfl) dX9_undo_22 hP hS hl) (fun z2 h => ?_)
    refine k_aload_n X dX9_undo_25 0 rfl ?_
    refine k_getR (t := 1) X fk_X9_14 (by rfl) (by decide) rfl dX9_undo_26 ?_
    refine k_getI X fk_X9_109 kzC_1 rfl dX9_undo_29 ?_
    exact k_iret X hrt hlk dX9_undo_32 h
  · refine k_bipush X dX9_undo_7 (by decide +kernel) ?_
    exact k_iret X hrt hlk dX9_undo_9 h
set_option maxHeartbeats 4000000 in
set_option maxRecDepth 100000 in
theorem ct_X9_why {l : Launch} {D : va_G} {cA : Nat → ClassId} {ad sa : Nat → Nat} (hj : kInj NC ad) (a1 : Int) (a2 : Int) (a3 : Int) (z : Hp) (Kp : Int → Hp → Prop) (h : cal_X9_why a1 a2 a3 z Kp) : kMet l yX9_why cX9_why 4 (some .int) 6 NC kdC D cA ad sa [.ref (ad 0), kI a1, kI a2, kI a3] z (kQi NC kdC D cA ad Kp) := by
  unfold cal_X9_why at h
  refine k_met (cc := cX9_why) (own := RX9) (nL := 4) rfl rfl (Nat.le_of_ble_eq_true rfl) hj kltC (fun p e s m below meth c X hrt hlk => ?_)
  refine k_sub (lv' := [(0, .ref (ad 0)), (1, kI a1), (2, kI a2), (3, kI a3)]) [0, 1, 2, 3] rfl ?_
  refine k_iload_n X dX9_why_0 1 rfl ?_
  refine k_afterP (st := []) (fun H locs ls hP hS hl => k_runS (As := [kI a1]) X lk_X9_106 yo_X9_isFlag rfl (kR_ok (by decide) (by decide)) (ct_X9_isFlag (kCx_j X) _ _ _ h) (Nat.le_of_ble_eq_true rfl) dX9_why_1 hP hS hl) (fun v1 h => ?_)
  refine k_if_eq (tgt := 15) X dX9_why_4 (by decide) h (fun h => ?_) (fun h => ?_)
  · refine k_iconst X dX9_why_15 ?_
    exact k_iret X hrt hlk dX9_why_16 h
  · refine k_iload_n X dX9_why_7 2 rfl ?_
    refine k_iload_n X dX9_why_8 3 rfl ?_
    refine k_afterP (st := []) (fun H locs ls hP hS hl => k_runS (As := [kI a2, kI a3]) X lk_X9_194 yo_X9_isLinkPart rfl (kR_ok (by decide) (by decide)) (ct_X9_isLinkPart (kCx_j X) _ _ _ _ h) (Nat.le_of_ble_eq_true rfl) dX9_why_9 hP hS hl) (fun v2 h => ?_)
    refine k_if_ne (tgt := 17) X dX9_why_12 (by decide) h (fun h => ?_) (fun h => ?_)
    · refine k_aload_n X dX9_why_17 0 rfl ?_
      refine k_afterV (st := []) (fun H locs ls hP hS hl => k_runV (As := []) X lk_X9_161 rfl yo_X9_settle rfl (kR_ok (by decide) (by decide)) (ct_X9_settle (kCx_j X)  _ _ h) (by rfl) rfl (Nat.le_of_ble_eq_true rfl) dX9_why_18 hP hS hl) (fun z3 h => ?_)
      refine k_aload_n X dX9_why_21 0 rfl ?_
      refine k_getR (t := 86) X fk_X9_43 (by rfl) (by decide) rfl dX9_why_22 ?_
      refine k_getR (t := 99) X fk_X9_181 kzC_86 (by decide) rfl dX9_why_25 ?_
      refine k_getI X fk_X9_211 kzC_99 rfl dX9_why_28 ?_
      refine k_if_ge (tgt := 37) X dX9_why_31 (by decide) h (fun h => ?_) (fun h => ?_)
      · refine k_aload_n X dX9_why_37 0 rfl ?_
        refine k_getR (t := 86) X fk_X9_43 (by rfl) (by decide) rfl dX9_why_38 ?_
        refine k_getR (t := 99) X fk_X9_181 kzC_86 (by decide) rfl dX9_why_41 ?_
        refine k_iconst X dX9_why_44 ?_
        refine k_aload_n X dX9_why_45 0 rfl ?_
        refine k_getR (t := 86) X fk_X9_43 (by rfl) (by decide) rfl dX9_why_46 ?_
        refine k_getR (t := 99) X fk_X9_181 kzC_86 (by decide) rfl dX9_why_49 ?_
        refine k_getI X fk_X9_211 kzC_99 rfl dX9_why_52 ?_
        refine k_imul X dX9_why_55 ?_
        refine k_iload_n X dX9_why_56 1 rfl ?_
        refine k_iadd X dX9_why_57 ?_
        refine k_iload_n X dX9_why_58 2 rfl ?_
        refine k_iload_n X dX9_why_59 3 rfl ?_
        refine k_afterP (st := []) (fun H locs ls hP hS hl => k_runV (As := [kI ((2 * (z3 99 10)) + a1), kI a2, kI a3]) X lk_X9_198 rfl yo_X3_tellRest rfl (kR_ok (by decide) (by decide)) (ct_X3_tellRest (kCx_j X) 99 kzC_99 _ _ _ _ _ h) kzC_99 rfl (Nat.le_of_ble_eq_true rfl) dX9_why_60 hP hS hl) (fun v4 h => ?_)
        exact k_iret X hrt hlk dX9_why_63 h
      · refine k_bipush X dX9_why_34 (by decide +kernel) ?_
        exact k_iret X hrt hlk dX9_why_36 h
    · refine k_iconst X dX9_why_15 ?_
      exact k_iret X hrt hlk dX9_why_16 h
set_option maxHeartbeats 4000000 in
set_option maxRecDepth 100000 in
theorem ct_X9_year {l : Launch} {D : va_G} {cA : Nat → ClassId} {ad sa : Nat → Nat} (hj : kInj NC ad) (a1 : Int) (a2 : Int) (z : Hp) (Kp : Int → Hp → Prop) (h : cal_X9_year a1 a2 z Kp) : kMet l yX9_year cX9_year 3 (some .int) 6 NC kdC D cA ad sa [.ref (ad 0), kI a1, kI a2] z (kQi NC kdC D cA ad Kp) := by
  unfold cal_X9_year at h
  refine k_met (cc := cX9_year) (own := RX9) (nL := 3) rfl rfl (Nat.le_of_ble_eq_true rfl) hj kltC (fun p e s m below meth c X hrt hlk => ?_)
  refine k_sub (lv' := [(0, .ref (ad 0)), (1, kI a1), (2, kI a2)]) [0, 1, 2] rfl ?_
  refine k_aload_n X dX9_year_0 0 rfl ?_
  refine k_getR (t := 1) X fk_X9_14 (by rfl) (by decide) rfl dX9_year_1 ?_
  refine k_iload_n X dX9_year_4 1 rfl ?_
  refine k_afterP (st := []) (fun H locs ls hP hS hl => k_runV (As := [kI a1]) X lk_X9_123 rfl yo_X0_isStatement rfl (kR_ok (by decide) (by decide)) (ct_X0_isStatement (kCx_j X) 1 kzC_1 _ _ _ h) kzC_1 rfl (Nat.le_of_ble_eq_true rfl) dX9_year_5 hP hS hl) (fun v1 h => ?_)
  refine k_if_eq (tgt := 18) X dX9_year_8 (by decide) h (fun h => ?_) (fun h => ?_)
  · refine k_iconst X dX9_year_18 ?_
    exact k_iret X hrt hlk dX9_year_19 h
  · refine k_iload_n X dX9_year_11 2 rfl ?_
    refine k_afterP (st := []) (fun H locs ls hP hS hl => k_runS (As := [kI a2]) X lk_X9_106 yo_X9_isFlag rfl (kR_ok (by decide) (by decide)) (ct_X9_isFlag (kCx_j X) _ _ _ h) (Nat.le_of_ble_eq_true rfl) dX9_year_12 hP hS hl) (fun v2 h => ?_)
    refine k_if_ne (tgt := 20) X dX9_year_15 (by decide) h (fun h => ?_) (fun h => ?_)
    · refine k_aload_n X dX9_year_20 0 rfl ?_
      refine k_getR (t := 1) X fk_X9_14 (by rfl) (by decide) rfl dX9_year_21 ?_
      refine k_getR (t := 35) X fk_X9_129 kzC_1 (by decide) rfl dX9_year_24 ?_
      refine k_iload_n X dX9_year_27 1 rfl ?_
      refine k_iald X kzC_35 (Nat.le_of_ble_eq_true rfl) dX9_year_28 h (fun h => ?_)
      refine k_iconst X dX9_year_29 ?_
      refine k_icmp_ne (tgt := 45) X dX9_year_30 (by decide) ⟨h.1, ⟨by decide, by decide⟩, h.2⟩ (fun h => ?_) (fun h => ?_)
      · refine k_bipush X dX9_year_45 (by decide +kernel) ?_
        exact k_iret X hrt hlk dX9_year_47 h
      · refine k_aload_n X dX9_year_33 0 rfl ?_
        refine k_getR (t := 1) X fk_X9_14 (by rfl) (by decide) rfl dX9_year_34 ?_
        refine k_getR (t := 40) X fk_X9_126 kzC_1 (by decide) rfl dX9_year_37 ?_
        refine k_iload_n X dX9_year_40 1 rfl ?_
        refine k_iald X kzC_40 (Nat.le_of_ble_eq_true rfl) dX9_year_41 h (fun h => ?_)
        refine k_if_ne (tgt := 48) X dX9_year_42 (by decide) h (fun h => ?_) (fun h => ?_)
        · refine k_aload_n X dX9_year_48 0 rfl ?_
          refine k_afterV (st := []) (fun H locs ls hP hS hl => k_runV (As := []) X lk_X9_161 rfl yo_X9_settle rfl (kR_ok (by decide) (by decide)) (ct_X9_settle (kCx_j X)  _ _ h) (by rfl) rfl (Nat.le_of_ble_eq_true rfl) dX9_year_49 hP hS hl) (fun z3 h => ?_)
          refine k_aload_n X dX9_year_52 0 rfl ?_
          refine k_getR (t := 86) X fk_X9_43 (by rfl) (by decide) rfl dX9_year_53 ?_
          refine k_getR (t := 99) X fk_X9_181 kzC_86 (by decide) rfl dX9_year_56 ?_
          refine k_getR (t := 100) X fk_X9_185 kzC_99 (by decide) rfl dX9_year_59 ?_
          refine k_iconst X dX9_year_62 ?_
          refine k_bipush X dX9_year_63 (by decide +kernel) ?_
          refine k_iload_n X dX9_year_65 1 rfl ?_
          refine k_iadd X dX9_year_66 ?_
          refine k_imul X dX9_year_67 ?_
          refine k_iload_n X dX9_year_68 2 rfl ?_
          refine k_iadd X dX9_year_69 ?_
          refine k_iald X kzC_100 (Nat.le_of_ble_eq_true rfl) dX9_year_70 h (fun h => ?_)
          exact k_iret X hrt hlk dX9_year_71 h
        · refine k_bipush X dX9_year_45 (by decide +kernel) ?_
          exact k_iret X hrt hlk dX9_year_47 h
    · refine k_iconst X dX9_year_18 ?_
      exact k_iret X hrt hlk dX9_year_19 h
