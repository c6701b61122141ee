set_option maxHeartbeats 4000000 in
set_option maxRecDepth 100000 in
theorem ct_X10_feed {l : Launch} {D : va_G} {cA : Nat → ClassId} {ad sa : Nat → Nat} (hj : kInj NM ad) (a1 : Int) (z : Hp) (Kp : Int → Hp → Prop) (h : cal_X10_feed a1 z Kp) : kMet l yX10_feed cX10_feed 2 (some .int) 1 NM kdM D cA ad sa [.ref (ad 0), kI a1] z (kQi NM kdM D cA ad Kp) := by
  unfold cal_X10_feed at h
  refine k_met (cc := cX10_feed) (own := RX10) (nL := 2) rfl rfl (Nat.le_of_ble_eq_true rfl) hj kltM (fun p e s m below meth c X hrt hlk => ?_)
  refine k_sub (lv' := [(0, .ref (ad 0)), (1, kI a1)]) [0, 1] rfl ?_
  refine k_iload_n X dX10_feed_0 1 rfl ?_
  refine k_iconst X dX10_feed_1 ?_
  refine k_bipush X dX10_feed_2 (by decide +kernel) ?_
  refine k_afterP (st := []) (fun H locs ls hP hS hl => k_runS (As := [kI a1, kI 1, kI 127]) X lk_X10_72 yo_X10_isIn rfl (kR_ok (by decide) (by decide)) (ct_X10_isIn (kCx_j X) _ _ _ _ _ h) (Nat.le_of_ble_eq_true rfl) dX10_feed_4 hP hS hl) (fun v1 h => ?_)
  refine k_if_ne (tgt := 13) X dX10_feed_7 (by decide) h (fun h => ?_) (fun h => ?_)
  · refine k_aload_n X dX10_feed_13 0 rfl ?_
    refine k_getI X fk_X10_160 (by rfl) rfl dX10_feed_14 ?_
    refine k_bipush X dX10_feed_17 (by decide +kernel) ?_
    refine k_icmp_ne (tgt := 25) X dX10_feed_19 (by decide) ⟨h.1, ⟨by decide, by decide⟩, h.2⟩ (fun h => ?_) (fun h => ?_)
    · refine k_aload_n X dX10_feed_25 0 rfl ?_
      refine k_getR (t := 3) X fk_X10_18 (by rfl) (by decide) rfl dX10_feed_26 ?_
      refine k_aload_n X dX10_feed_29 0 rfl ?_
      refine k_getI X fk_X10_160 (by rfl) rfl dX10_feed_30 ?_
      refine k_iload_n X dX10_feed_33 1 rfl ?_
      refine k_iast X kzM_3 (Nat.le_of_ble_eq_true rfl) dX10_feed_34 h (fun h => k_nameH h (fun z2 h => ?_))
      refine k_aload_n X dX10_feed_35 0 rfl ?_
      refine k_dup X dX10_feed_36 rfl ?_
      refine k_getI X fk_X10_160 (by rfl) rfl dX10_feed_37 ?_
      refine k_iconst X dX10_feed_40 ?_
      refine k_iadd X dX10_feed_41 ?_
      refine k_putI X fp_X10_160 (by rfl) rfl dX10_feed_42 (k_nameH h (fun z3 h => ?_))
      refine k_aload_n X dX10_feed_45 0 rfl ?_
      refine k_getI X fk_X10_160 (by rfl) rfl dX10_feed_46 ?_
      exact k_iret X hrt hlk dX10_feed_49 h
    · refine k_bipush X dX10_feed_22 (by decide +kernel) ?_
      exact k_iret X hrt hlk dX10_feed_24 h
  · refine k_bipush X dX10_feed_10 (by decide +kernel) ?_
    exact k_iret X hrt hlk dX10_feed_12 h
set_option maxHeartbeats 4000000 in
set_option maxRecDepth 100000 in
theorem ct_X10_lengthOf {l : Launch} {D : va_G} {cA : Nat → ClassId} {ad sa : Nat → Nat} (hj : kInj NM ad) (a1 : Int) (z : Hp) (Kp : Int → Prop) (h : cal_X10_lengthOf a1 z Kp) : kMet l yX10_lengthOf cX10_lengthOf 3 (some .int) 1 NM kdM D cA ad sa [.ref (ad 0), kI a1] z (kQi NM kdM D cA ad (fun v z1 => z1 = z ∧ Kp v)) := by
  unfold cal_X10_lengthOf at h
  refine k_met (cc := cX10_lengthOf) (own := RX10) (nL := 3) rfl rfl (Nat.le_of_ble_eq_true rfl) hj kltM (fun p e s m below meth c X hrt hlk => ?_)
  refine k_sub (lv' := [(0, .ref (ad 0)), (1, kI a1)]) [0, 1] rfl ?_
  refine k_iconst X dX10_lengthOf_0 ?_
  refine k_istore_n X dX10_lengthOf_1 h (fun v1 => [(2, kI v1), (0, .ref (ad 0)), (1, kI a1)]) (by decide) (fun _ => rfl) (fun v1 h => ?_)
  refine k_sub (lv' := [(0, .ref (ad 0)), (1, kI a1), (2, kI v1)]) [1, 2, 0] rfl ?_
  refine h (fun v3 => kAt p l e (kR 1) s m ([.ref (ad 0), kI a1] : List Value).toArray below meth c (MQ below (kQi NM kdM D cA ad (fun v z1 => z1 = z ∧ Kp v)) ([.ref (ad 0), kI a1] : List Value).toArray s 0 0 (kA NM ad)) 3 NM kdM D cA ad 2 [(0, .ref (ad 0)), (1, kI a1), (2, kI v3)] [] z) (fun v3 h => ?_)
  refine k_iload_n X dX10_lengthOf_2 2 rfl ?_
  refine k_bipush X dX10_lengthOf_3 (by decide +kernel) ?_
  refine k_icmp_ge (tgt := 23) X dX10_lengthOf_5 (by decide) ⟨h.1, ⟨by decide, by decide⟩, h.2⟩ (fun h => ?_) (fun h => ?_)
  · refine k_iload_n X dX10_lengthOf_23 2 rfl ?_
    exact k_iret X hrt hlk dX10_lengthOf_24 ⟨rfl, h⟩
  · refine k_aload_n X dX10_lengthOf_8 0 rfl ?_
    refine k_iload_n X dX10_lengthOf_9 1 rfl ?_
    refine k_iload_n X dX10_lengthOf_10 2 rfl ?_
    refine k_afterP (st := []) (fun H locs ls hP hS hl => k_runV (As := [kI a1, kI v3]) X lk_X10_219 rfl yo_X10_letterOf rfl (kR_ok (by decide) (by decide)) (ct_X10_letterOf (kCx_j X) _ _ _ _ h) (by rfl) rfl (Nat.le_of_ble_eq_true rfl) dX10_lengthOf_11 hP hS hl) (fun v4 h => ?_)
    refine k_if_le (tgt := 23) X dX10_lengthOf_14 (by decide) h (fun h => ?_) (fun h => ?_)
    · refine k_iload_n X dX10_lengthOf_23 2 rfl ?_
      exact k_iret X hrt hlk dX10_lengthOf_24 ⟨rfl, h⟩
    · refine k_iinc X dX10_lengthOf_17 2 rfl h (fun v5 => [(2, kI v5), (0, .ref (ad 0)), (1, kI a1)]) (by decide) (fun _ => rfl) (fun v5 h => ?_)
      refine k_goto (tgt := 2) X dX10_lengthOf_20 (by decide) ?_
      exact k_sub [1, 2, 0] rfl h
set_option maxHeartbeats 4000000 in
set_option maxRecDepth 100000 in
theorem ct_X10_find {l : Launch} {D : va_G} {cA : Nat → ClassId} {ad sa : Nat → Nat} (hj : kInj NM ad) (a1 : Int) (z : Hp) (Kp : Int → Hp → Prop) (h : cal_X10_find a1 z Kp) : kMet l yX10_find cX10_find 7 (some .int) 2 NM kdM D cA ad sa [.ref (ad 0), kI a1] z (kQi NM kdM D cA ad Kp) := by
  unfold cal_X10_find at h
  refine k_met (cc := cX10_find) (own := RX10) (nL := 7) rfl rfl (Nat.le_of_ble_eq_true rfl) hj kltM (fun p e s m below meth c X hrt hlk => ?_)
  refine k_sub (lv' := [(0, .ref (ad 0)), (1, kI a1)]) [0, 1] rfl ?_
  refine k_aload_n X dX10_find_0 0 rfl ?_
  refine k_getI X fk_X10_160 (by rfl) rfl dX10_find_1 ?_
  refine k_istore_n X dX10_find_4 h (fun v1 => [(2, kI v1), (0, .ref (ad 0)), (1, kI a1)]) (by decide) (fun _ => rfl) (fun v1 h => ?_)
  refine k_aload_n X dX10_find_5 1 rfl ?_
  refine k_iconst X dX10_find_6 ?_
  refine k_putI X fp_X10_160 (by rfl) rfl dX10_find_7 (k_nameH h (fun z2 h => ?_))
  refine k_iconst X dX10_find_10 ?_
  refine k_istore_n X dX10_find_11 h (fun v3 => [(3, kI v3), (2, kI v1), (0, .ref (ad 0)), (1, kI a1)]) (by decide) (fun _ => rfl) (fun v3 h => ?_)
  refine k_iconst X dX10_find_12 ?_
  refine k_istore X dX10_find_13 h (fun v4 => [(4, kI v4), (3, kI v3), (2, kI v1), (0, .ref (ad 0)), (1, kI a1)]) (by decide) (fun _ => rfl) (fun v4 h => ?_)
  refine k_sub (lv' := [(0, .ref (ad 0)), (1, kI a1), (2, kI v1), (3, kI v3), (4, kI v4)]) [3, 4, 2, 1, 0] rfl ?_
  refine h (fun v6 v7 => kAt p l e (kR 2) s m ([.ref (ad 0), kI a1] : List Value).toArray below meth c (MQ below (kQi NM kdM D cA ad Kp) ([.ref (ad 0), kI a1] : List Value).toArray s 0 0 (kA NM ad)) 7 NM kdM D cA ad 15 [(0, .ref (ad 0)), (1, kI a1), (2, kI v1), (3, kI v6), (4, kI v7)] [] z2) (fun v6 v7 h => ?_)
  refine k_iload X dX10_find_15 4 rfl ?_
  refine k_aload_n X dX10_find_17 0 rfl ?_
  refine k_getR (t := 1) X fk_X10_11 (by rfl) (by decide) rfl dX10_find_18 ?_
  refine k_iconst X dX10_find_21 ?_
  refine k_iald X kzM_1 (Nat.le_of_ble_eq_true rfl) dX10_find_22 ⟨⟨by decide, by decide⟩, h⟩ (fun h => ?_)
  refine k_icmp_ge (tgt := 120) X dX10_find_23 (by decide) h (fun h => ?_) (fun h => ?_)
  · refine k_bipush X dX10_find_120 (by decide +kernel) ?_
    exact k_iret X hrt hlk dX10_find_122 h
  · refine k_aload_n X dX10_find_26 0 rfl ?_
    refine k_iload X dX10_find_27 4 rfl ?_
    refine k_afterP (st := []) (fun H locs ls hP hS hl => k_runV (As := [kI v7]) X lk_X10_222 rfl yo_X10_lengthOf rfl (kR_ok (by decide) (by decide)) (ct_X10_lengthOf (kCx_j X) _ _ _ h) (by rfl) rfl (Nat.le_of_ble_eq_true rfl) dX10_find_29 hP hS hl) (fun v8 h => ?_)
    refine k_iload_n X dX10_find_32 2 rfl ?_
    refine jn_use (fun J10 => ∀ (v9 : Int), J10 v9 → kAt p l e (kR 2) s m ([.ref (ad 0), kI a1] : List Value).toArray below meth c (MQ below (kQi NM kdM D cA ad Kp) ([.ref (ad 0), kI a1] : List Value).toArray s 0 0 (kA NM ad)) 7 NM kdM D cA ad 43 [(0, .ref (ad 0)), (1, kI a1), (2, kI v1), (3, kI v6), (4, kI v7), (5, kI v9)] [] z2) h ?_ (fun J10 hJ10 h => ?_)
    · intro v9 h
      refine k_iconst X dX10_find_43 ?_
      refine k_istore X dX10_find_44 h (fun v11 => [(6, kI v11), (0, .ref (ad 0)), (1, kI a1), (2, kI v1), (3, kI v6), (4, kI v7), (5, kI v9)]) (by decide) (fun _ => rfl) (fun v11 h => ?_)
      refine k_sub (lv' := [(0, .ref (ad 0)), (1, kI a1), (2, kI v1), (3, kI v6), (4, kI v7), (5, kI v9), (6, kI v11)]) [1, 2, 3, 4, 5, 6, 0] rfl ?_
      refine h (fun v13 v14 => kAt p l e (kR 2) s m ([.ref (ad 0), kI a1] : List Value).toArray below meth c (MQ below (kQi NM kdM D cA ad Kp) ([.ref (ad 0), kI a1] : List Value).toArray s 0 0 (kA NM ad)) 7 NM kdM D cA ad 46 [(0, .ref (ad 0)), (1, kI a1), (2, kI v1), (3, kI v6), (4, kI v7), (5, kI v13), (6, kI v14)] [] z2) (fun v13 v14 h => ?_)
      refine k_iload X dX10_find_46 6 rfl ?_
      refine k_iload_n X dX10_find_48 2 rfl ?_
      refine jn_use (fun J16 => ∀ (v15 : Int), J16 v15 → kAt p l e (kR 2) s m ([.ref (ad 0), kI a1] : List Value).toArray below meth c (MQ below (kQi NM kdM D cA ad Kp) ([.ref (ad 0), kI a1] : List Value).toArray s 0 0 (kA NM ad)) 7 NM kdM D cA ad 88 [(0, .ref (ad 0)), (1, kI a1), (2, kI v1), (3, kI v6), (4, kI v7), (5, kI v15)] [] z2) h ?_ (fun J16 hJ16 h => ?_)
      · intro v15 h
        refine k_iload X dX10_find_88 5 rfl ?_
        refine jn_use (fun J17 => J17 → kAt p l e (kR 2) s m ([.ref (ad 0), kI a1] : List Value).toArray below meth c (MQ below (kQi NM kdM D cA ad Kp) ([.ref (ad 0), kI a1] : List Value).toArray s 0 0 (kA NM ad)) 7 NM kdM D cA ad 101 [(0, .ref (ad 0)), (1, kI a1), (2, kI v1), (3, kI v6), (4, kI v7), (5, kI v15)] [] z2) h ?_ (fun J17 hJ17 h => ?_)
        · intro h
          refine k_iload_n X dX10_find_101 3 rfl ?_
          refine k_iload X dX10_find_102 5 rfl ?_
          refine jn_use (fun J19 => ∀ (v18 : Int), J19 v18 → kAt p l e (kR 2) s m ([.ref (ad 0), kI a1] : List Value).toArray below meth c (MQ below (kQi NM kdM D cA ad Kp) ([.ref (ad 0), kI a1] : List Value).toArray s 0 0 (kA NM ad)) 7 NM kdM D cA ad 114 [(0, .ref (ad 0)), (1, kI a1), (2, kI v1), (3, kI v18), (4, kI v7)] [] z2) h ?_ (fun J19 hJ19 h => ?_)
          · intro v18 h
            refine k_iinc X dX10_find_114 4 rfl h (fun v20 => [(4, kI v20), (0, .ref (ad 0)), (1, kI a1), (2, kI v1), (3, kI v18)]) (by decide) (fun _ => rfl) (fun v20 h => ?_)
            refine k_goto (tgt := 15) X dX10_find_117 (by decide) ?_
            exact k_sub [1, 2, 3, 4, 0] rfl h
          · refine k_if_eq (tgt := 111) X dX10_find_104 (by decide) h (fun h => ?_) (fun h => ?_)
            · refine k_iconst X dX10_find_111 ?_
              refine k_iadd X dX10_find_112 ?_
              refine k_istore_n X dX10_find_113 h (fun v21 => [(3, kI v21), (0, .ref (ad 0)), (1, kI a1), (2, kI v1), (4, kI v7), (5, kI v15)]) (by decide) (fun _ => rfl) (fun v21 h => ?_)
              exact k_sub [1, 2, 3, 0, 4] rfl (hJ19 _ h)
            · refine k_iconst X dX10_find_107 ?_
              refine k_goto (tgt := 112) X dX10_find_108 (by decide) ?_
              refine k_iadd X dX10_find_112 ?_
              refine k_istore_n X dX10_find_113 h (fun v22 => [(3, kI v22), (0, .ref (ad 0)), (1, kI a1), (2, kI v1), (4, kI v7), (5, kI v15)]) (by decide) (fun _ => rfl) (fun v22 h => ?_)
              exact k_sub [1, 2, 3, 0, 4] rfl (hJ19 _ h)
        · refine k_if_eq (tgt := 101) X dX10_find_90 (by decide) h (fun h => ?_) (fun h => ?_)
          · exact k_sub [0, 1, 2, 3, 4, 5] rfl (hJ17 h)
          · refine k_iload_n X dX10_find_93 3 rfl ?_
            refine k_iload_n X dX10_find_94 1 rfl ?_
            refine k_icmp_ne (tgt := 101) X dX10_find_95 (by decide) h (fun h => ?_) (fun h => ?_)
            · exact k_sub [0, 1, 2, 3, 4, 5] rfl (hJ17 h)
            · refine k_iload X dX10_find_98 4 rfl ?_
              exact k_iret X hrt hlk dX10_find_100 h
      · refine k_icmp_ge (tgt := 88) X dX10_find_49 (by decide) h (fun h => ?_) (fun h => ?_)
        · exact k_sub [0, 1, 2, 3, 4, 5] rfl (hJ16 _ h)
        · refine k_iload X dX10_find_52 5 rfl ?_
          refine k_if_eq (tgt := 88) X dX10_find_54 (by decide) h (fun h => ?_) (fun h => ?_)
          · exact k_sub [0, 1, 2, 3, 4, 5] rfl (hJ16 _ h)
          · refine k_aload_n X dX10_find_57 0 rfl ?_
            refine k_iload X dX10_find_58 4 rfl ?_
            refine k_iload X dX10_find_60 6 rfl ?_
            refine k_afterP (st := []) (fun H locs ls hP hS hl => k_runV (As := [kI v7, kI v14]) X lk_X10_219 rfl yo_X10_letterOf rfl (kR_ok (by decide) (by decide)) (ct_X10_letterOf (kCx_j X) _ _ _ _ h) (by rfl) rfl (Nat.le_of_ble_eq_true rfl) dX10_find_62 hP hS hl) (fun v23 h => ?_)
            refine k_aload_n X dX10_find_65 0 rfl ?_
            refine k_getR (t := 3) X fk_X10_18 (by rfl) (by decide) rfl dX10_find_66 ?_
            refine k_iload X dX10_find_69 6 rfl ?_
            refine k_iald X kzM_3 (Nat.le_of_ble_eq_true rfl) dX10_find_71 h (fun h => ?_)
            refine jn_use (fun J25 => ∀ (v24 : Int), J25 v24 → kAt p l e (kR 2) s m ([.ref (ad 0), kI a1] : List Value).toArray below meth c (MQ below (kQi NM kdM D cA ad Kp) ([.ref (ad 0), kI a1] : List Value).toArray s 0 0 (kA NM ad)) 7 NM kdM D cA ad 82 [(0, .ref (ad 0)), (1, kI a1), (2, kI v1), (3, kI v6), (4, kI v7), (5, kI v24), (6, kI v14)] [] z2) h ?_ (fun J25 hJ25 h => ?_)
            · intro v24 h
              refine k_iinc X dX10_find_82 6 rfl h (fun v26 => [(6, kI v26), (0, .ref (ad 0)), (1, kI a1), (2, kI v1), (3, kI v6), (4, kI v7), (5, kI v24)]) (by decide) (fun _ => rfl) (fun v26 h => ?_)
              refine k_goto (tgt := 46) X dX10_find_85 (by decide) ?_
              exact k_sub [1, 2, 3, 4, 5, 6, 0] rfl h
            · refine k_icmp_ne (tgt := 79) X dX10_find_72 (by decide) h (fun h => ?_) (fun h => ?_)
              · refine k_iconst X dX10_find_79 ?_
                refine k_istore X dX10_find_80 h (fun v27 => [(5, kI v27), (0, .ref (ad 0)), (1, kI a1), (2, kI v1), (3, kI v6), (4, kI v7), (6, kI v14)]) (by decide) (fun _ => rfl) (fun v27 h => ?_)
                exact k_sub [1, 2, 3, 4, 5, 0, 6] rfl (hJ25 _ h)
              · refine k_iconst X dX10_find_75 ?_
                refine k_goto (tgt := 80) X dX10_find_76 (by decide) ?_
                refine k_istore X dX10_find_80 h (fun v28 => [(5, kI v28), (0, .ref (ad 0)), (1, kI a1), (2, kI v1), (3, kI v6), (4, kI v7), (6, kI v14)]) (by decide) (fun _ => rfl) (fun v28 h => ?_)
                exact k_sub [1, 2, 3, 4, 5, 0, 6] rfl (hJ25 _ h)
    · refine k_icmp_ne (tgt := 40) X dX10_find_33 (by decide) h (fun h => ?_) (fun h => ?_)
      · refine k_iconst X dX10_find_40 ?_
        refine k_istore X dX10_find_41 h (fun v29 => [(5, kI v29), (0, .ref (ad 0)), (1, kI a1), (2, kI v1), (3, kI v6), (4, kI v7)]) (by decide) (fun _ => rfl) (fun v29 h => ?_)
        exact k_sub [1, 2, 3, 4, 5, 0] rfl (hJ10 _ h)
      · refine k_iconst X dX10_find_36 ?_
        refine k_goto (tgt := 41) X dX10_find_37 (by decide) ?_
        refine k_istore X dX10_find_41 h (fun v30 => [(5, kI v30), (0, .ref (ad 0)), (1, kI a1), (2, kI v1), (3, kI v6), (4, kI v7)]) (by decide) (fun _ => rfl) (fun v30 h => ?_)
        exact k_sub [1, 2, 3, 4, 5, 0] rfl (hJ10 _ h)
set_option maxHeartbeats 4000000 in
set_option maxRecDepth 100000 in
theorem ct_X10_isList {l : Launch} {D : va_G} {cA : Nat → ClassId} {ad sa : Nat → Nat} (hj : kInj NM ad) (a1 : Int) (z : Hp) (Kp : Int → Prop) (h : cal_X10_isList a1 z Kp) : kMet l yX10_isList cX10_isList 1 (some .boolean) 1 NM kdM D cA ad sa [kI a1] z (kQi NM kdM D cA ad (fun v z1 => z1 = z ∧ Kp v)) := by
  unfold cal_X10_isList at h
  refine k_met (cc := cX10_isList) (own := RX10) (nL := 1) rfl rfl (Nat.le_of_ble_eq_true rfl) hj kltM (fun p e s m below meth c X hrt hlk => ?_)
  refine k_sub (lv' := [(0, kI a1)]) [0] rfl ?_
  refine k_iload_n X dX10_isList_0 0 rfl ?_
  refine k_iconst X dX10_isList_1 ?_
  refine k_iconst X dX10_isList_2 ?_
  refine k_afterP (st := []) (fun H locs ls hP hS hl => k_runS (As := [kI a1, kI 0, kI 3]) X lk_X10_72 yo_X10_isIn rfl (kR_ok (by decide) (by decide)) (ct_X10_isIn (kCx_j X) _ _ _ _ _ h) (Nat.le_of_ble_eq_true rfl) dX10_isList_3 hP hS hl) (fun v1 h => ?_)
  exact k_zret X hrt hlk dX10_isList_6 ⟨h.1, ⟨rfl, h.2⟩⟩
set_option maxHeartbeats 4000000 in
set_option maxRecDepth 100000 in
theorem ct_X10_get {l : Launch} {D : va_G} {cA : Nat → ClassId} {ad sa : Nat → Nat} (hj : kInj NM ad) (a1 : Int) (a2 : Int) (z : Hp) (Kp : Int → Prop) (h : cal_X10_get a1 a2 z Kp) : kMet l yX10_get cX10_get 3 (some .long) 2 NM kdM D cA ad sa [.ref (ad 0), kI a1, kI a2] z (kQl NM kdM D cA ad (fun v z1 => z1 = z ∧ Kp v)) := by
  unfold cal_X10_get at h
  refine k_met (cc := cX10_get) (own := RX10) (nL := 3) rfl rfl (Nat.le_of_ble_eq_true rfl) hj kltM (fun p e s m below meth c X hrt hlk => ?_)
  refine k_sub (lv' := [(0, .ref (ad 0)), (1, kI a1), (2, kI a2)]) [0, 1, 2] rfl ?_
  refine k_iload_n X dX10_get_0 1 rfl ?_
  refine k_afterP (st := []) (fun H locs ls hP hS hl => k_runS (As := [kI a1]) X lk_X10_355 yo_X10_isList rfl (kR_ok (by decide) (by decide)) (ct_X10_isList (kCx_j X) _ _ _ h) (Nat.le_of_ble_eq_true rfl) dX10_get_1 hP hS hl) (fun v1 h => ?_)
  refine k_if_eq (tgt := 38) X dX10_get_4 (by decide) h (fun h => ?_) (fun h => ?_)
  · refine k_ldc2 X (-9223372036854775808) mw1209 dX10_get_38 ?_
    exact k_lret X hrt hlk dX10_get_41 ⟨rfl, h⟩
  · refine k_iload_n X dX10_get_7 2 rfl ?_
    refine k_iconst X dX10_get_8 ?_
    refine k_aload_n X dX10_get_9 0 rfl ?_
    refine k_getR (t := 18) X fk_X10_63 (by rfl) (by decide) rfl dX10_get_10 ?_
    refine k_iload_n X dX10_get_13 1 rfl ?_
    refine k_iald X kzM_18 (Nat.le_of_ble_eq_true rfl) dX10_get_14 h (fun h => ?_)
    refine k_iconst X dX10_get_15 ?_
    refine k_isub X dX10_get_16 ?_
    refine k_afterP (st := []) (fun H locs ls hP hS hl => k_runS (As := [kI a2, kI 0, kI ((z 18 a1.toNat) - 1)]) X lk_X10_72 yo_X10_isIn rfl (kR_ok (by decide) (by decide)) (ct_X10_isIn (kCx_j X) _ _ _ _ _ h) (Nat.le_of_ble_eq_true rfl) dX10_get_17 hP hS hl) (fun v2 h => ?_)
    refine k_if_eq (tgt := 38) X dX10_get_20 (by decide) h (fun h => ?_) (fun h => ?_)
    · refine k_ldc2 X (-9223372036854775808) mw1209 dX10_get_38 ?_
      exact k_lret X hrt hlk dX10_get_41 ⟨rfl, h⟩
    · refine k_aload_n X dX10_get_23 0 rfl ?_
      refine k_getR (t := 19) X fk_X10_66 (by rfl) (by decide) rfl dX10_get_24 ?_
      refine k_bipush X dX10_get_27 (by decide +kernel) ?_
      refine k_iload_n X dX10_get_29 1 rfl ?_
      refine k_imul X dX10_get_30 ?_
      refine k_iload_n X dX10_get_31 2 rfl ?_
      refine k_iadd X dX10_get_32 ?_
      refine k_iald X kzM_19 (Nat.le_of_ble_eq_true rfl) dX10_get_33 h (fun h => ?_)
      refine k_i2l X dX10_get_34 h (fun h => ?_)
      refine k_goto (tgt := 41) X dX10_get_35 (by decide) ?_
      exact k_lret X hrt hlk dX10_get_41 ⟨rfl, h⟩
set_option maxHeartbeats 4000000 in
set_option maxRecDepth 100000 in
theorem ct_X10_writes {l : Launch} {D : va_G} {cA : Nat → ClassId} {ad sa : Nat → Nat} (hj : kInj NM ad) (a1 : Int) (z : Hp) (Kp : Hp → Prop) (h : cal_X10_writes a1 z Kp) : kMet l yX10_writes cX10_writes 2 none 0 NM kdM D cA ad sa [.ref (ad 0), kI a1] z (kQv NM kdM D cA ad Kp) := by
  unfold cal_X10_writes at h
  refine k_met (cc := cX10_writes) (own := RX10) (nL := 2) rfl rfl (Nat.le_of_ble_eq_true rfl) hj kltM (fun p e s m below meth c X hrt hlk => ?_)
  refine k_sub (lv' := [(0, .ref (ad 0)), (1, kI a1)]) [0, 1] rfl ?_
  refine k_aload_n X dX10_writes_0 0 rfl ?_
  refine k_getR (t := 4) X fk_X10_21 (by rfl) (by decide) rfl dX10_writes_1 ?_
  refine k_aload_n X dX10_writes_4 0 rfl ?_
  refine k_getI X fk_X10_163 (by rfl) rfl dX10_writes_5 ?_
  refine k_iload_n X dX10_writes_8 1 rfl ?_
  refine k_iast X kzM_4 (Nat.le_of_ble_eq_true rfl) dX10_writes_9 h (fun h => k_nameH h (fun z1 h => ?_))
  refine k_aload_n X dX10_writes_10 0 rfl ?_
  refine k_dup X dX10_writes_11 rfl ?_
  refine k_getI X fk_X10_163 (by rfl) rfl dX10_writes_12 ?_
  refine k_iconst X dX10_writes_15 ?_
  refine k_iadd X dX10_writes_16 ?_
  refine k_putI X fp_X10_163 (by rfl) rfl dX10_writes_17 (k_nameH h (fun z2 h => ?_))
  exact k_vret X hrt hlk dX10_writes_20 h
set_option maxHeartbeats 4000000 in
set_option maxRecDepth 100000 in
theorem ct_X10_writes_ {l : Launch} {D : va_G} {cA : Nat → ClassId} {ad sa : Nat → Nat} (hj : kInj NM ad) (s1 : Nat) (hs1 : s1 < kstrL.length) (z : Hp) (Kp : Hp → Prop) (h : cal_X10_writes_ s1 z Kp) : kMet l yX10_writes_ cX10_writes_ 3 none 5 NM kdM D cA ad sa [.ref (ad 0), .ref (sa s1)] z (kQv NM kdM D cA ad Kp) := by
  unfold cal_X10_writes_ at h
  refine k_met (cc := cX10_writes_) (own := RX10) (nL := 3) rfl rfl (Nat.le_of_ble_eq_true rfl) hj kltM (fun p e s m below meth c X hrt hlk => ?_)
  refine k_sub (lv' := [(0, .ref (ad 0)), (1, .ref (sa s1))]) [0, 1] rfl ?_
  refine k_iconst X dX10_writes__0 ?_
  refine k_istore_n X dX10_writes__1 h (fun v1 => [(2, kI v1), (0, .ref (ad 0)), (1, .ref (sa s1))]) (by decide) (fun _ => rfl) (fun v1 h => ?_)
  refine k_sub (lv' := [(0, .ref (ad 0)), (1, .ref (sa s1)), (2, kI v1)]) [1, 2, 0] rfl ?_
  refine h (fun v3 z4 => kAt p l e (kR 5) s m ([.ref (ad 0), .ref (sa s1)] : List Value).toArray below meth c (MQ below (kQv NM kdM D cA ad Kp) ([.ref (ad 0), .ref (sa s1)] : List Value).toArray s 0 0 (kA NM ad)) 3 NM kdM D cA ad 2 [(0, .ref (ad 0)), (1, .ref (sa s1)), (2, kI v3)] [] z4) (fun v3 z4 h => ?_)
  refine k_iload_n X dX10_writes__2 2 rfl ?_
  refine k_aload_n X dX10_writes__3 1 rfl ?_
  refine k_slen X lk_X10_281 hs1 (kR_ok (by decide) (by decide)) (Nat.le_of_ble_eq_true rfl) dX10_writes__4 ?_
  refine k_icmp_ge (tgt := 25) X dX10_writes__7 (by decide) h (fun h => ?_) (fun h => ?_)
  · exact k_vret X hrt hlk dX10_writes__25 h
  · refine k_aload_n X dX10_writes__10 0 rfl ?_
    refine k_aload_n X dX10_writes__11 1 rfl ?_
    refine k_iload_n X dX10_writes__12 2 rfl ?_
    refine k_schar X lk_X10_213 hs1 (kR_ok (by decide) (by decide)) (Nat.le_of_ble_eq_true rfl) dX10_writes__13 h (fun h => ?_)
    refine k_afterV (st := []) (fun H locs ls hP hS hl => k_runV (As := [kI ((kTx s1).getD v3.toNat 0)]) X lk_X10_208 rfl yo_X10_writes rfl (kR_ok (by decide) (by decide)) (ct_X10_writes (kCx_j X) _ _ _ h) (by rfl) rfl (Nat.le_of_ble_eq_true rfl) dX10_writes__16 hP hS hl) (fun z5 h => ?_)
    refine k_iinc X dX10_writes__19 2 rfl h (fun v6 => [(2, kI v6), (0, .ref (ad 0)), (1, .ref (sa s1))]) (by decide) (fun _ => rfl) (fun v6 h => ?_)
    refine k_goto (tgt := 2) X dX10_writes__22 (by decide) ?_
    exact k_sub [1, 2, 0] rfl h
set_option maxHeartbeats 4000000 in
set_option maxRecDepth 100000 in
theorem ct_X10_grands {l : Launch} {D : va_G} {cA : Nat → ClassId} {ad sa : Nat → Nat} (hj : kInj NM ad) (a1 : Int) (z : Hp) (Kp : Hp → Prop) (h : cal_X10_grands a1 z Kp) : kMet l yX10_grands cX10_grands 3 none 6 NM kdM D cA ad sa [.ref (ad 0), kI a1] z (kQv NM kdM D cA ad Kp) := by
  unfold cal_X10_grands at h
  refine k_met (cc := cX10_grands) (own := RX10) (nL := 3) rfl rfl (Nat.le_of_ble_eq_true rfl) hj kltM (fun p e s m below meth c X hrt hlk => ?_)
  refine k_sub (lv' := [(0, .ref (ad 0)), (1, kI a1)]) [0, 1] rfl ?_
  refine k_iconst X dX10_grands_0 ?_
  refine k_istore_n X dX10_grands_1 h (fun v1 => [(2, kI v1), (0, .ref (ad 0)), (1, kI a1)]) (by decide) (fun _ => rfl) (fun v1 h => ?_)
  refine k_sub (lv' := [(0, .ref (ad 0)), (1, kI a1), (2, kI v1)]) [1, 2, 0] rfl ?_
  refine h (fun v3 z4 => kAt p l e (kR 6) s m ([.ref (ad 0), kI a1] : List Value).toArray below meth c (MQ below (kQv NM kdM D cA ad Kp) ([.ref (ad 0), kI a1] : List Value).toArray s 0 0 (kA NM ad)) 3 NM kdM D cA ad 2 [(0, .ref (ad 0)), (1, kI a1), (2, kI v3)] [] z4) (fun v3 z4 h => ?_)
  refine k_iload_n X dX10_grands_2 2 rfl ?_
  refine k_iload_n X dX10_grands_3 1 rfl ?_
  refine k_icmp_ge (tgt := 20) X dX10_grands_4 (by decide) h (fun h => ?_) (fun h => ?_)
  · exact k_vret X hrt hlk dX10_grands_20 h
  · refine k_aload_n X dX10_grands_7 0 rfl ?_
    refine k_ldcSw X (k := 30) (by decide) rfl rfl dX10_grands_8 ?_
    refine k_afterV (st := []) (fun H locs ls hP hS hl => k_runV (As := [.ref (sa 30)]) X lk_X10_284 rfl yo_X10_writes_ rfl (kR_ok (by decide) (by decide)) (ct_X10_writes_ (kCx_j X) 30 (by decide) _ _ h) (by rfl) rfl (Nat.le_of_ble_eq_true rfl) dX10_grands_11 hP hS hl) (fun z5 h => ?_)
    refine k_iinc X dX10_grands_14 2 rfl h (fun v6 => [(2, kI v6), (0, .ref (ad 0)), (1, kI a1)]) (by decide) (fun _ => rfl) (fun v6 h => ?_)
    refine k_goto (tgt := 2) X dX10_grands_17 (by decide) ?_
    exact k_sub [1, 2, 0] rfl h
set_option maxHeartbeats 4000000 in
set_option maxRecDepth 100000 in
theorem ct_X10_least {l : Launch} {D : va_G} {cA : Nat → ClassId} {ad sa : Nat → Nat} (hj : kInj NM ad) (a1 : Int) (z : Hp) (Kp : Int → Prop) (h : cal_X10_least a1 z Kp) : kMet l yX10_least cX10_least 2 (some .int) 1 NM kdM D cA ad sa [kI a1] z (kQi NM kdM D cA ad (fun v z1 => z1 = z ∧ Kp v)) := by
  unfold cal_X10_least at h
  refine k_met (cc := cX10_least) (own := RX10) (nL := 2) rfl rfl (Nat.le_of_ble_eq_true rfl) hj kltM (fun p e s m below meth c X hrt hlk => ?_)
  refine k_sub (lv' := [(0, kI a1)]) [0] rfl ?_
  refine k_iconst X dX10_least_0 ?_
  refine k_istore_n X dX10_least_1 h (fun v1 => [(1, kI v1), (0, kI a1)]) (by decide) (fun _ => rfl) (fun v1 h => ?_)
  refine k_sub (lv' := [(0, kI a1), (1, kI v1)]) [1, 0] rfl ?_
  refine h (fun v3 => kAt p l e (kR 1) s m ([kI a1] : List Value).toArray below meth c (MQ below (kQi NM kdM D cA ad (fun v z1 => z1 = z ∧ Kp v)) ([kI a1] : List Value).toArray s 0 0 (kA NM ad)) 2 NM kdM D cA ad 2 [(0, kI a1), (1, kI v3)] [] z) (fun v3 h => ?_)
  refine k_iload_n X dX10_least_2 1 rfl ?_
  refine k_bipush X dX10_least_3 (by decide +kernel) ?_
  refine k_icmp_ge (tgt := 24) X dX10_least_5 (by decide) ⟨h.1, ⟨by decide, by decide⟩, h.2⟩ (fun h => ?_) (fun h => ?_)
  · refine k_bipush X dX10_least_24 (by decide +kernel) ?_
    exact k_iret X hrt hlk dX10_least_26 ⟨rfl, h⟩
  · refine k_iload_n X dX10_least_8 0 rfl ?_
    refine k_iload_n X dX10_least_9 1 rfl ?_
    refine k_afterP (st := []) (fun H locs ls hP hS hl => k_runS (As := [kI a1, kI v3]) X lk_X10_89 yo_X10_has rfl (kR_ok (by decide) (by decide)) (ct_X10_has (kCx_j X) _ _ _ _ h) (Nat.le_of_ble_eq_true rfl) dX10_least_10 hP hS hl) (fun v4 h => ?_)
    refine k_if_eq (tgt := 18) X dX10_least_13 (by decide) h (fun h => ?_) (fun h => ?_)
    · refine k_iinc X dX10_least_18 1 rfl h (fun v5 => [(1, kI v5), (0, kI a1)]) (by decide) (fun _ => rfl) (fun v5 h => ?_)
      refine k_goto (tgt := 2) X dX10_least_21 (by decide) ?_
      exact k_sub [1, 0] rfl h
    · refine k_iload_n X dX10_least_16 1 rfl ?_
      exact k_iret X hrt hlk dX10_least_17 ⟨rfl, h⟩
set_option maxHeartbeats 4000000 in
set_option maxRecDepth 100000 in
theorem ct_X10_under {l : Launch} {D : va_G} {cA : Nat → ClassId} {ad sa : Nat → Nat} (hj : kInj NM ad) (a1 : Int) (r2 : Nat) (hr2 : kdM r2 = (1, 30, 0)) (z : Hp) (Kp : Int → Prop) (h : cal_X10_under a1 r2 z Kp) : kMet l yX10_under cX10_under 4 (some .int) 1 NM kdM D cA ad sa [.ref (ad 0), kI a1, .ref (ad r2)] z (kQi NM kdM D cA ad (fun v z1 => z1 = z ∧ Kp v)) := by
  unfold cal_X10_under at h
  refine k_met (cc := cX10_under) (own := RX10) (nL := 4) rfl rfl (Nat.le_of_ble_eq_true rfl) hj kltM (fun p e s m below meth c X hrt hlk => ?_)
  refine k_sub (lv' := [(0, .ref (ad 0)), (1, kI a1), (2, .ref (ad r2))]) [0, 1, 2] rfl ?_
  refine k_iconst X dX10_under_0 ?_
  refine k_istore_n X dX10_under_1 h (fun v1 => [(3, kI v1), (0, .ref (ad 0)), (1, kI a1), (2, .ref (ad r2))]) (by decide) (fun _ => rfl) (fun v1 h => ?_)
  refine k_sub (lv' := [(0, .ref (ad 0)), (1, kI a1), (2, .ref (ad r2)), (3, kI v1)]) [1, 2, 3, 0] rfl ?_
  refine h (fun v3 => kAt p l e (kR 1) s m ([.ref (ad 0), kI a1, .ref (ad r2)] : List Value).toArray below meth c (MQ below (kQi NM kdM D cA ad (fun v z1 => z1 = z ∧ Kp v)) ([.ref (ad 0), kI a1, .ref (ad r2)] : List Value).toArray s 0 0 (kA NM ad)) 4 NM kdM D cA ad 2 [(0, .ref (ad 0)), (1, kI a1), (2, .ref (ad r2)), (3, kI v3)] [] z) (fun v3 h => ?_)
  refine k_aload_n X dX10_under_2 2 rfl ?_
  refine k_iload_n X dX10_under_3 3 rfl ?_
  refine k_iald X hr2 (Nat.le_of_ble_eq_true rfl) dX10_under_4 h (fun h => ?_)
  refine k_aload_n X dX10_under_5 2 rfl ?_
  refine k_iload_n X dX10_under_6 1 rfl ?_
  refine k_iald X hr2 (Nat.le_of_ble_eq_true rfl) dX10_under_7 h (fun h => ?_)
  refine k_iconst X dX10_under_8 ?_
  refine k_isub X dX10_under_9 ?_
  refine jn_use (fun J4 => J4 → kAt p l e (kR 1) s m ([.ref (ad 0), kI a1, .ref (ad r2)] : List Value).toArray below meth c (MQ below (kQi NM kdM D cA ad (fun v z1 => z1 = z ∧ Kp v)) ([.ref (ad 0), kI a1, .ref (ad r2)] : List Value).toArray s 0 0 (kA NM ad)) 4 NM kdM D cA ad 33 [(0, .ref (ad 0)), (1, kI a1), (2, .ref (ad r2)), (3, kI v3)] [] z) h ?_ (fun J4 hJ4 h => ?_)
  · intro h
    refine k_iinc X dX10_under_33 3 rfl h (fun v5 => [(3, kI v5), (0, .ref (ad 0)), (1, kI a1), (2, .ref (ad r2))]) (by decide) (fun _ => rfl) (fun v5 h => ?_)
    refine k_goto (tgt := 2) X dX10_under_36 (by decide) ?_
    exact k_sub [1, 2, 3, 0] rfl h
  · refine k_icmp_ne (tgt := 33) X dX10_under_10 (by decide) h (fun h => ?_) (fun h => ?_)
    · exact k_sub [0, 1, 2, 3] rfl (hJ4 h)
    · refine k_aload_n X dX10_under_13 0 rfl ?_
      refine k_getR (t := 7) X fk_X10_30 (by rfl) (by decide) rfl dX10_under_14 ?_
      refine k_iload_n X dX10_under_17 3 rfl ?_
      refine k_iald X kzM_7 (Nat.le_of_ble_eq_true rfl) dX10_under_18 h (fun h => ?_)
      refine k_aload_n X dX10_under_19 0 rfl ?_
      refine k_getR (t := 8) X fk_X10_33 (by rfl) (by decide) rfl dX10_under_20 ?_
      refine k_iload_n X dX10_under_23 3 rfl ?_
      refine k_iald X kzM_8 (Nat.le_of_ble_eq_true rfl) dX10_under_24 h (fun h => ?_)
      refine k_ior X dX10_under_25 ?_
      refine k_iload_n X dX10_under_26 1 rfl ?_
      refine k_afterP (st := []) (fun H locs ls hP hS hl => k_runS (As := [kI (ior (z 7 v3.toNat) (z 8 v3.toNat)), kI a1]) X lk_X10_89 yo_X10_has rfl (kR_ok (by decide) (by decide)) (ct_X10_has (kCx_j X) _ _ _ _ h) (Nat.le_of_ble_eq_true rfl) dX10_under_27 hP hS hl) (fun v6 h => ?_)
      refine k_if_ne (tgt := 39) X dX10_under_30 (by decide) h (fun h => ?_) (fun h => ?_)
      · refine k_iload_n X dX10_under_39 3 rfl ?_
        exact k_iret X hrt hlk dX10_under_40 ⟨rfl, h⟩
      · exact k_sub [0, 1, 2, 3] rfl (hJ4 h)
set_option maxHeartbeats 4000000 in
set_option maxRecDepth 100000 in
theorem ct_X10_isHalf {l : Launch} {D : va_G} {cA : Nat → ClassId} {ad sa : Nat → Nat} (hj : kInj NM ad)  (z : Hp) (Kp : Int → Prop) (h : cal_X10_isHalf  z Kp) : kMet l yX10_isHalf cX10_isHalf 4 (some .boolean) 2 NM kdM D cA ad sa [.ref (ad 0)] z (kQi NM kdM D cA ad (fun v z1 => z1 = z ∧ Kp v)) := by
  unfold cal_X10_isHalf at h
  refine k_met (cc := cX10_isHalf) (own := RX10) (nL := 4) rfl rfl (Nat.le_of_ble_eq_true rfl) hj kltM (fun p e s m below meth c X hrt hlk => ?_)
  refine k_sub (lv' := [(0, .ref (ad 0))]) [0] rfl ?_
  refine k_aload_n X dX10_isHalf_0 0 rfl ?_
  refine k_getR (t := 13) X fk_X10_48 (by rfl) (by decide) rfl dX10_isHalf_1 ?_
  refine k_aload_n X dX10_isHalf_4 0 rfl ?_
  refine k_getI X fk_X10_265 (by rfl) rfl dX10_isHalf_5 ?_
  refine k_iald X kzM_13 (Nat.le_of_ble_eq_true rfl) dX10_isHalf_8 h (fun h => ?_)
  refine k_if_eq (tgt := 24) X dX10_isHalf_9 (by decide) h (fun h => ?_) (fun h => ?_)
  · refine k_iconst X dX10_isHalf_24 ?_
    exact k_zret X hrt hlk dX10_isHalf_25 ⟨Or.inl rfl, ⟨rfl, h⟩⟩
  · refine k_aload_n X dX10_isHalf_12 0 rfl ?_
    refine k_getR (t := 14) X fk_X10_51 (by rfl) (by decide) rfl dX10_isHalf_13 ?_
    refine k_aload_n X dX10_isHalf_16 0 rfl ?_
    refine k_getI X fk_X10_265 (by rfl) rfl dX10_isHalf_17 ?_
    refine k_iald X kzM_14 (Nat.le_of_ble_eq_true rfl) dX10_isHalf_20 h (fun h => ?_)
    refine k_if_ne (tgt := 26) X dX10_isHalf_21 (by decide) h (fun h => ?_) (fun h => ?_)
    · refine k_aload_n X dX10_isHalf_26 0 rfl ?_
      refine k_aload_n X dX10_isHalf_27 0 rfl ?_
      refine k_getI X fk_X10_265 (by rfl) rfl dX10_isHalf_28 ?_
      refine k_aload_n X dX10_isHalf_31 0 rfl ?_
      refine k_getR (t := 13) X fk_X10_48 (by rfl) (by decide) rfl dX10_isHalf_32 ?_
      refine k_afterP (st := []) (fun H locs ls hP hS hl => k_runV (As := [kI (z 0 27), .ref (ad 13)]) X lk_X10_274 rfl yo_X10_under rfl (kR_ok (by decide) (by decide)) (ct_X10_under (kCx_j X) _ 13 kzM_13 _ _ h) (by rfl) rfl (Nat.le_of_ble_eq_true rfl) dX10_isHalf_35 hP hS hl) (fun v1 h => ?_)
      refine k_istore_n X dX10_isHalf_38 h (fun v2 => [(1, kI v2), (0, .ref (ad 0))]) (by decide) (fun _ => rfl) (fun v2 h => ?_)
      refine k_aload_n X dX10_isHalf_39 1 rfl ?_
      refine k_aload_n X dX10_isHalf_40 1 rfl ?_
      refine k_getI X fk_X10_265 (by rfl) rfl dX10_isHalf_41 ?_
      refine k_aload_n X dX10_isHalf_44 1 rfl ?_
      refine k_getR (t := 14) X fk_X10_51 (by rfl) (by decide) rfl dX10_isHalf_45 ?_
      refine k_afterP (st := []) (fun H locs ls hP hS hl => k_runV (As := [kI (z 0 27), .ref (ad 14)]) X lk_X10_274 rfl yo_X10_under rfl (kR_ok (by decide) (by decide)) (ct_X10_under (kCx_j X) _ 14 kzM_14 _ _ h) (by rfl) rfl (Nat.le_of_ble_eq_true rfl) dX10_isHalf_48 hP hS hl) (fun v3 h => ?_)
      refine k_istore_n X dX10_isHalf_51 h (fun v4 => [(2, kI v4), (1, kI v2), (0, .ref (ad 0))]) (by decide) (fun _ => rfl) (fun v4 h => ?_)
      refine k_aload_n X dX10_isHalf_52 2 rfl ?_
      refine k_getR (t := 7) X fk_X10_30 (by rfl) (by decide) rfl dX10_isHalf_53 ?_
      refine k_iload_n X dX10_isHalf_56 1 rfl ?_
      refine k_iald X kzM_7 (Nat.le_of_ble_eq_true rfl) dX10_isHalf_57 h (fun h => ?_)
      refine jn_use (fun J6 => ∀ (v5 : Int), J6 v5 → kAt p l e (kR 2) s m ([.ref (ad 0)] : List Value).toArray below meth c (MQ below (kQi NM kdM D cA ad (fun v z1 => z1 = z ∧ Kp v)) ([.ref (ad 0)] : List Value).toArray s 0 0 (kA NM ad)) 4 NM kdM D cA ad 118 [(3, kI v5)] [] z) h ?_ (fun J6 hJ6 h => ?_)
      · intro v5 h
        refine k_iload_n X dX10_isHalf_118 0 rfl ?_
        refine k_if_ne (tgt := 126) X dX10_isHalf_119 (by decide) h (fun h => ?_) (fun h => ?_)
        · refine k_iconst X dX10_isHalf_126 ?_
          exact k_zret X hrt hlk dX10_isHalf_127 ⟨Or.inl rfl, ⟨rfl, h⟩⟩
        · refine k_iconst X dX10_isHalf_122 ?_
          refine k_goto (tgt := 127) X dX10_isHalf_123 (by decide) ?_
          exact k_zret X hrt hlk dX10_isHalf_127 ⟨Or.inr rfl, ⟨rfl, h⟩⟩
      · refine jn_use (fun J7 => J7 → kAt p l e (kR 2) s m ([.ref (ad 0)] : List Value).toArray below meth c (MQ below (kQi NM kdM D cA ad (fun v z1 => z1 = z ∧ Kp v)) ([.ref (ad 0)] : List Value).toArray s 0 0 (kA NM ad)) 4 NM kdM D cA ad 116 [] [] z) h ?_ (fun J7 hJ7 h => ?_)
        · intro h
          refine k_iconst X dX10_isHalf_116 ?_
          refine k_istore_n X dX10_isHalf_117 h (fun v8 => [(3, kI v8)]) (by decide) (fun _ => rfl) (fun v8 h => ?_)
          exact k_sub [0] rfl (hJ6 _ h)
        · refine k_if_eq (tgt := 116) X dX10_isHalf_58 (by decide) h (fun h => ?_) (fun h => ?_)
          · exact k_sub [] rfl (hJ7 h)
          · refine k_aload_n X dX10_isHalf_61 2 rfl ?_
            refine k_getR (t := 8) X fk_X10_33 (by rfl) (by decide) rfl dX10_isHalf_62 ?_
            refine k_iload_n X dX10_isHalf_65 1 rfl ?_
            refine k_iald X kzM_8 (Nat.le_of_ble_eq_true rfl) dX10_isHalf_66 h (fun h => ?_)
            refine k_if_eq (tgt := 116) X dX10_isHalf_67 (by decide) h (fun h => ?_) (fun h => ?_)
            · exact k_sub [] rfl (hJ7 h)
            · refine k_aload_n X dX10_isHalf_70 2 rfl ?_
              refine k_getR (t := 7) X fk_X10_30 (by rfl) (by decide) rfl dX10_isHalf_71 ?_
              refine k_iload_n X dX10_isHalf_74 1 rfl ?_
              refine k_iald X kzM_7 (Nat.le_of_ble_eq_true rfl) dX10_isHalf_75 h (fun h => ?_)
              refine k_afterP (st := []) (fun H locs ls hP hS hl => k_runS (As := [kI (z 7 v2.toNat)]) X lk_X10_231 yo_X10_least rfl (kR_ok (by decide) (by decide)) (ct_X10_least (kCx_j X) _ _ _ h) (Nat.le_of_ble_eq_true rfl) dX10_isHalf_76 hP hS hl) (fun v9 h => ?_)
              refine k_aload_n X dX10_isHalf_79 2 rfl ?_
              refine k_getR (t := 7) X fk_X10_30 (by rfl) (by decide) rfl dX10_isHalf_80 ?_
              refine k_iload_n X dX10_isHalf_83 0 rfl ?_
              refine k_iald X kzM_7 (Nat.le_of_ble_eq_true rfl) dX10_isHalf_84 h (fun h => ?_)
              refine k_afterP (st := [kI v9]) (fun H locs ls hP hS hl => k_runS (As := [kI (z 7 v4.toNat)]) X lk_X10_231 yo_X10_least rfl (kR_ok (by decide) (by decide)) (ct_X10_least (kCx_j X) _ _ _ h) (Nat.le_of_ble_eq_true rfl) dX10_isHalf_85 hP hS hl) (fun v10 h => ?_)
              refine k_icmp_ne (tgt := 116) X dX10_isHalf_88 (by decide) h (fun h => ?_) (fun h => ?_)
              · exact k_sub [] rfl (hJ7 h)
              · refine k_aload_n X dX10_isHalf_91 2 rfl ?_
                refine k_getR (t := 8) X fk_X10_33 (by rfl) (by decide) rfl dX10_isHalf_92 ?_
                refine k_iload_n X dX10_isHalf_95 1 rfl ?_
                refine k_iald X kzM_8 (Nat.le_of_ble_eq_true rfl) dX10_isHalf_96 h (fun h => ?_)
                refine k_afterP (st := []) (fun H locs ls hP hS hl => k_runS (As := [kI (z 8 v2.toNat)]) X lk_X10_231 yo_X10_least rfl (kR_ok (by decide) (by decide)) (ct_X10_least (kCx_j X) _ _ _ h) (Nat.le_of_ble_eq_true rfl) dX10_isHalf_97 hP hS hl) (fun v11 h => ?_)
                refine k_aload_n X dX10_isHalf_100 2 rfl ?_
                refine k_getR (t := 8) X fk_X10_33 (by rfl) (by decide) rfl dX10_isHalf_101 ?_
                refine k_iload_n X dX10_isHalf_104 0 rfl ?_
                refine k_iald X kzM_8 (Nat.le_of_ble_eq_true rfl) dX10_isHalf_105 h (fun h => ?_)
                refine k_afterP (st := [kI v11]) (fun H locs ls hP hS hl => k_runS (As := [kI (z 8 v4.toNat)]) X lk_X10_231 yo_X10_least rfl (kR_ok (by decide) (by decide)) (ct_X10_least (kCx_j X) _ _ _ h) (Nat.le_of_ble_eq_true rfl) dX10_isHalf_106 hP hS hl) (fun v12 h => ?_)
                refine k_icmp_ne (tgt := 116) X dX10_isHalf_109 (by decide) h (fun h => ?_) (fun h => ?_)
                · exact k_sub [] rfl (hJ7 h)
                · refine k_iconst X dX10_isHalf_112 ?_
                  refine k_goto (tgt := 117) X dX10_isHalf_113 (by decide) ?_
                  refine k_istore_n X dX10_isHalf_117 h (fun v13 => [(3, kI v13), (2, kI v4), (1, kI v2), (0, .ref (ad 0))]) (by decide) (fun _ => rfl) (fun v13 h => ?_)
                  exact k_sub [0] rfl (hJ6 _ h)
    · refine k_iconst X dX10_isHalf_24 ?_
      exact k_zret X hrt hlk dX10_isHalf_25 ⟨Or.inl rfl, ⟨rfl, h⟩⟩
set_option maxHeartbeats 4000000 in
set_option maxRecDepth 100000 in
theorem ct_X10_half {l : Launch} {D : va_G} {cA : Nat → ClassId} {ad sa : Nat → Nat} (hj : kInj NM ad) (a1 : Int) (a2 : Int) (z : Hp) (Kp : Int → Hp → Prop) (h : cal_X10_half a1 a2 z Kp) : kMet l yX10_half cX10_half 3 (some .int) 3 NM kdM D cA ad sa [.ref (ad 0), kI a1, kI a2] z (kQi NM kdM D cA ad Kp) := by
  unfold cal_X10_half at h
  refine k_met (cc := cX10_half) (own := RX10) (nL := 3) rfl rfl (Nat.le_of_ble_eq_true rfl) hj kltM (fun p e s m below meth c X hrt hlk => ?_)
  refine k_sub (lv' := [(0, .ref (ad 0)), (1, kI a1), (2, kI a2)]) [0, 1, 2] rfl ?_
  refine k_aload_n X dX10_half_0 0 rfl ?_
  refine k_iload_n X dX10_half_1 1 rfl ?_
  refine k_iload_n X dX10_half_2 2 rfl ?_
  refine k_afterP (st := []) (fun H locs ls hP hS hl => k_runV (As := [kI a1, kI a2]) X lk_X10_268 rfl yo_X10_areTwo rfl (kR_ok (by decide) (by decide)) (ct_X10_areTwo (kCx_j X) _ _ _ _ h) (by rfl) rfl (Nat.le_of_ble_eq_true rfl) dX10_half_3 hP hS hl) (fun v1 h => ?_)
  refine k_if_ne (tgt := 11) X dX10_half_6 (by decide) h (fun h => ?_) (fun h => ?_)
  · refine k_aload_n X dX10_half_11 0 rfl ?_
    refine k_iload_n X dX10_half_12 1 rfl ?_
    refine k_iload_n X dX10_half_13 2 rfl ?_
    refine k_afterI (st := []) (fun H locs ls hP hS hl => k_runV (As := [kI a1, kI a2]) X lk_X10_271 rfl yo_X10_meets rfl (kR_ok (by decide) (by decide)) (ct_X10_meets (kCx_j X) _ _ _ _ h) (by rfl) rfl (Nat.le_of_ble_eq_true rfl) dX10_half_14 hP hS hl) (fun v3 z2 h => ?_)
    refine k_if_ne (tgt := 23) X dX10_half_17 (by decide) h (fun h => ?_) (fun h => ?_)
    · refine k_aload_n X dX10_half_23 0 rfl ?_
      refine k_afterP (st := []) (fun H locs ls hP hS hl => k_runV (As := []) X lk_X10_278 rfl yo_X10_isHalf rfl (kR_ok (by decide) (by decide)) (ct_X10_isHalf (kCx_j X)  _ _ h) (by rfl) rfl (Nat.le_of_ble_eq_true rfl) dX10_half_24 hP hS hl) (fun v4 h => ?_)
      refine k_if_eq (tgt := 34) X dX10_half_27 (by decide) h (fun h => ?_) (fun h => ?_)
      · refine k_iconst X dX10_half_34 ?_
        exact k_iret X hrt hlk dX10_half_35 h
      · refine k_iconst X dX10_half_30 ?_
        refine k_goto (tgt := 35) X dX10_half_31 (by decide) ?_
        exact k_iret X hrt hlk dX10_half_35 h
    · refine k_bipush X dX10_half_20 (by decide +kernel) ?_
      exact k_iret X hrt hlk dX10_half_22 h
  · refine k_iconst X dX10_half_9 ?_
    exact k_iret X hrt hlk dX10_half_10 h
set_option maxHeartbeats 4000000 in
set_option maxRecDepth 100000 in
theorem ct_X10_image {l : Launch} {D : va_G} {cA : Nat → ClassId} {ad sa : Nat → Nat} (hj : kInj NM ad)  (z : Hp) (Kp : Int → Hp → Prop) (h : cal_X10_image  z Kp) : kMet l yX10_image cX10_image 1 (some .int) 1 NM kdM D cA ad sa [.ref (ad 0)] z (kQi NM kdM D cA ad Kp) := by
  unfold cal_X10_image at h
  refine k_met (cc := cX10_image) (own := RX10) (nL := 1) rfl rfl (Nat.le_of_ble_eq_true rfl) hj kltM (fun p e s m below meth c X hrt hlk => ?_)
  refine k_sub (lv' := [(0, .ref (ad 0))]) [0] rfl ?_
  refine k_aload_n X dX10_image_0 0 rfl ?_
  refine k_getR (t := 1) X fk_X10_11 (by rfl) (by decide) rfl dX10_image_1 ?_
  refine k_aload_n X dX10_image_4 0 rfl ?_
  refine k_getR (t := 2) X fk_X10_15 (by rfl) (by decide) rfl dX10_image_5 ?_
  refine k_afterV (st := []) (fun H locs ls hP hS hl => k_runS (As := [.ref (ad 1), .ref (ad 2)]) X lk_X10_358 yo_X10_copies rfl (kR_ok (by decide) (by decide)) (ct_X10_copies (kCx_j X) 1 kzM_1 2 kzM_2 _ _ h) (Nat.le_of_ble_eq_true rfl) dX10_image_8 hP hS hl) (fun z1 h => ?_)
  refine k_aload_n X dX10_image_11 0 rfl ?_
  refine k_iconst X dX10_image_12 ?_
  refine k_putZ X fp_X10_362 (by rfl) rfl (Or.inr rfl) dX10_image_13 (k_nameH h (fun z2 h => ?_))
  refine k_aload_n X dX10_image_16 0 rfl ?_
  refine k_getR (t := 1) X fk_X10_11 (by rfl) (by decide) rfl dX10_image_17 ?_
  refine k_iconst X dX10_image_20 ?_
  refine k_iald X kzM_1 (Nat.le_of_ble_eq_true rfl) dX10_image_21 ⟨⟨by decide, by decide⟩, h⟩ (fun h => ?_)
  exact k_iret X hrt hlk dX10_image_22 h
set_option maxHeartbeats 4000000 in
set_option maxRecDepth 100000 in
theorem ct_X10_isBornAhead {l : Launch} {D : va_G} {cA : Nat → ClassId} {ad sa : Nat → Nat} (hj : kInj NM ad) (a1 : Int) (a2 : Int) (z : Hp) (Kp : Int → Prop) (h : cal_X10_isBornAhead a1 a2 z Kp) : kMet l yX10_isBornAhead cX10_isBornAhead 5 (some .boolean) 1 NM kdM D cA ad sa [.ref (ad 0), kI a1, kI a2] z (kQi NM kdM D cA ad (fun v z1 => z1 = z ∧ Kp v)) := by
  unfold cal_X10_isBornAhead at h
  refine k_met (cc := cX10_isBornAhead) (own := RX10) (nL := 5) rfl rfl (Nat.le_of_ble_eq_true rfl) hj kltM (fun p e s m below meth c X hrt hlk => ?_)
  refine k_sub (lv' := [(0, .ref (ad 0)), (1, kI a1), (2, kI a2)]) [0, 1, 2] rfl ?_
  refine k_iconst X dX10_isBornAhead_0 ?_
  refine k_iload_n X dX10_isBornAhead_1 1 rfl ?_
  refine k_afterP (st := [kI 2]) (fun H locs ls hP hS hl => k_runS (As := [kI a1]) X lk_X10_128 yo_X10_bornOf rfl (kR_ok (by decide) (by decide)) (ct_X10_bornOf (kCx_j X) _ _ _ h) (Nat.le_of_ble_eq_true rfl) dX10_isBornAhead_2 hP hS hl) (fun v1 h => ?_)
  refine k_imul X dX10_isBornAhead_5 ?_
  refine k_istore_n X dX10_isBornAhead_6 h (fun v2 => [(3, kI v2), (0, .ref (ad 0)), (1, kI a1), (2, kI a2)]) (by decide) (fun _ => rfl) (fun v2 h => ?_)
  refine k_iconst X dX10_isBornAhead_7 ?_
  refine k_iload_n X dX10_isBornAhead_8 3 rfl ?_
  refine k_afterP (st := [kI 2]) (fun H locs ls hP hS hl => k_runS (As := [kI a2]) X lk_X10_128 yo_X10_bornOf rfl (kR_ok (by decide) (by decide)) (ct_X10_bornOf (kCx_j X) _ _ _ h) (Nat.le_of_ble_eq_true rfl) dX10_isBornAhead_9 hP hS hl) (fun v3 h => ?_)
  refine k_imul X dX10_isBornAhead_12 ?_
  refine k_istore X dX10_isBornAhead_13 h (fun v4 => [(4, kI v4), (3, kI v2), (0, .ref (ad 0)), (1, kI a1), (2, kI a2)]) (by decide) (fun _ => rfl) (fun v4 h => ?_)
  refine k_aload_n X dX10_isBornAhead_15 2 rfl ?_
  refine k_getR (t := 10) X fk_X10_39 (by rfl) (by decide) rfl dX10_isBornAhead_16 ?_
  refine k_iload_n X dX10_isBornAhead_19 1 rfl ?_
  refine k_iald X kzM_10 (Nat.le_of_ble_eq_true rfl) dX10_isBornAhead_20 h (fun h => ?_)
  refine k_aload_n X dX10_isBornAhead_21 2 rfl ?_
  refine k_getR (t := 10) X fk_X10_39 (by rfl) (by decide) rfl dX10_isBornAhead_22 ?_
  refine k_iload X dX10_isBornAhead_25 0 rfl ?_
  refine k_iald X kzM_10 (Nat.le_of_ble_eq_true rfl) dX10_isBornAhead_27 h (fun h => ?_)
  refine k_icmp_eq (tgt := 53) X dX10_isBornAhead_28 (by decide) h (fun h => ?_) (fun h => ?_)
  · refine k_aload_n X dX10_isBornAhead_53 2 rfl ?_
    refine k_getR (t := 10) X fk_X10_39 (by rfl) (by decide) rfl dX10_isBornAhead_54 ?_
    refine k_iload_n X dX10_isBornAhead_57 1 rfl ?_
    refine k_iconst X dX10_isBornAhead_58 ?_
    refine k_iadd X dX10_isBornAhead_59 ?_
    refine k_iald X kzM_10 (Nat.le_of_ble_eq_true rfl) dX10_isBornAhead_60 h (fun h => ?_)
    refine k_aload_n X dX10_isBornAhead_61 2 rfl ?_
    refine k_getR (t := 10) X fk_X10_39 (by rfl) (by decide) rfl dX10_isBornAhead_62 ?_
    refine k_iload X dX10_isBornAhead_65 0 rfl ?_
    refine k_iconst X dX10_isBornAhead_67 ?_
    refine k_iadd X dX10_isBornAhead_68 ?_
    refine k_iald X kzM_10 (Nat.le_of_ble_eq_true rfl) dX10_isBornAhead_69 h (fun h => ?_)
    refine k_icmp_eq (tgt := 101) X dX10_isBornAhead_70 (by decide) h (fun h => ?_) (fun h => ?_)
    · refine k_iload_n X dX10_isBornAhead_101 3 rfl ?_
      refine k_iload_n X dX10_isBornAhead_102 4 rfl ?_
      refine k_icmp_ge (tgt := 110) X dX10_isBornAhead_103 (by decide) h (fun h => ?_) (fun h => ?_)
      · refine k_iconst X dX10_isBornAhead_110 ?_
        exact k_zret X hrt hlk dX10_isBornAhead_111 ⟨Or.inl rfl, ⟨rfl, h⟩⟩
      · refine k_iconst X dX10_isBornAhead_106 ?_
        refine k_goto (tgt := 111) X dX10_isBornAhead_107 (by decide) ?_
        exact k_zret X hrt hlk dX10_isBornAhead_111 ⟨Or.inr rfl, ⟨rfl, h⟩⟩
    · refine k_aload_n X dX10_isBornAhead_73 2 rfl ?_
      refine k_getR (t := 10) X fk_X10_39 (by rfl) (by decide) rfl dX10_isBornAhead_74 ?_
      refine k_iload_n X dX10_isBornAhead_77 1 rfl ?_
      refine k_iconst X dX10_isBornAhead_78 ?_
      refine k_iadd X dX10_isBornAhead_79 ?_
      refine k_iald X kzM_10 (Nat.le_of_ble_eq_true rfl) dX10_isBornAhead_80 h (fun h => ?_)
      refine k_aload_n X dX10_isBornAhead_81 2 rfl ?_
      refine k_getR (t := 10) X fk_X10_39 (by rfl) (by decide) rfl dX10_isBornAhead_82 ?_
      refine k_iload X dX10_isBornAhead_85 0 rfl ?_
      refine k_iconst X dX10_isBornAhead_87 ?_
      refine k_iadd X dX10_isBornAhead_88 ?_
      refine k_iald X kzM_10 (Nat.le_of_ble_eq_true rfl) dX10_isBornAhead_89 h (fun h => ?_)
      refine k_icmp_ge (tgt := 97) X dX10_isBornAhead_90 (by decide) h (fun h => ?_) (fun h => ?_)
      · refine k_iconst X dX10_isBornAhead_97 ?_
        refine k_goto (tgt := 111) X dX10_isBornAhead_98 (by decide) ?_
        exact k_zret X hrt hlk dX10_isBornAhead_111 ⟨Or.inl rfl, ⟨rfl, h⟩⟩
      · refine k_iconst X dX10_isBornAhead_93 ?_
        refine k_goto (tgt := 111) X dX10_isBornAhead_94 (by decide) ?_
        exact k_zret X hrt hlk dX10_isBornAhead_111 ⟨Or.inr rfl, ⟨rfl, h⟩⟩
  · refine k_aload_n X dX10_isBornAhead_31 2 rfl ?_
    refine k_getR (t := 10) X fk_X10_39 (by rfl) (by decide) rfl dX10_isBornAhead_32 ?_
    refine k_iload_n X dX10_isBornAhead_35 1 rfl ?_
    refine k_iald X kzM_10 (Nat.le_of_ble_eq_true rfl) dX10_isBornAhead_36 h (fun h => ?_)
    refine k_aload_n X dX10_isBornAhead_37 2 rfl ?_
    refine k_getR (t := 10) X fk_X10_39 (by rfl) (by decide) rfl dX10_isBornAhead_38 ?_
    refine k_iload X dX10_isBornAhead_41 0 rfl ?_
    refine k_iald X kzM_10 (Nat.le_of_ble_eq_true rfl) dX10_isBornAhead_43 h (fun h => ?_)
    refine k_icmp_ge (tgt := 51) X dX10_isBornAhead_44 (by decide) h (fun h => ?_) (fun h => ?_)
    · refine k_iconst X dX10_isBornAhead_51 ?_
      exact k_zret X hrt hlk dX10_isBornAhead_52 ⟨Or.inl rfl, ⟨rfl, h⟩⟩
    · refine k_iconst X dX10_isBornAhead_47 ?_
      refine k_goto (tgt := 52) X dX10_isBornAhead_48 (by decide) ?_
      exact k_zret X hrt hlk dX10_isBornAhead_52 ⟨Or.inr rfl, ⟨rfl, h⟩⟩
set_option maxHeartbeats 4000000 in
set_option maxRecDepth 100000 in
theorem ct_X10_isLink {l : Launch} {D : va_G} {cA : Nat → ClassId} {ad sa : Nat → Nat} (hj : kInj NM ad) (a1 : Int) (a2 : Int) (z : Hp) (Kp : Int → Prop) (h : cal_X10_isLink a1 a2 z Kp) : kMet l yX10_isLink cX10_isLink 2 (some .boolean) 1 NM kdM D cA ad sa [kI a1, kI a2] z (kQi NM kdM D cA ad (fun v z1 => z1 = z ∧ Kp v)) := by
  unfold cal_X10_isLink at h
  refine k_met (cc := cX10_isLink) (own := RX10) (nL := 2) rfl rfl (Nat.le_of_ble_eq_true rfl) hj kltM (fun p e s m below meth c X hrt hlk => ?_)
  refine k_sub (lv' := [(0, kI a1), (1, kI a2)]) [0, 1] rfl ?_
  refine k_iload_n X dX10_isLink_0 0 rfl ?_
  refine k_iconst X dX10_isLink_1 ?_
  refine k_bipush X dX10_isLink_2 (by decide +kernel) ?_
  refine k_afterP (st := []) (fun H locs ls hP hS hl => k_runS (As := [kI a1, kI 0, kI 99]) X lk_X10_72 yo_X10_isIn rfl (kR_ok (by decide) (by decide)) (ct_X10_isIn (kCx_j X) _ _ _ _ _ h) (Nat.le_of_ble_eq_true rfl) dX10_isLink_4 hP hS hl) (fun v1 h => ?_)
  refine k_if_eq (tgt := 23) X dX10_isLink_7 (by decide) h (fun h => ?_) (fun h => ?_)
  · refine k_iconst X dX10_isLink_23 ?_
    exact k_zret X hrt hlk dX10_isLink_24 ⟨Or.inl rfl, ⟨rfl, h⟩⟩
  · refine k_iload_n X dX10_isLink_10 1 rfl ?_
    refine k_iconst X dX10_isLink_11 ?_
    refine k_iconst X dX10_isLink_12 ?_
    refine k_afterP (st := []) (fun H locs ls hP hS hl => k_runS (As := [kI a2, kI 0, kI 2]) X lk_X10_72 yo_X10_isIn rfl (kR_ok (by decide) (by decide)) (ct_X10_isIn (kCx_j X) _ _ _ _ _ h) (Nat.le_of_ble_eq_true rfl) dX10_isLink_13 hP hS hl) (fun v2 h => ?_)
    refine k_if_eq (tgt := 23) X dX10_isLink_16 (by decide) h (fun h => ?_) (fun h => ?_)
    · refine k_iconst X dX10_isLink_23 ?_
      exact k_zret X hrt hlk dX10_isLink_24 ⟨Or.inl rfl, ⟨rfl, h⟩⟩
    · refine k_iconst X dX10_isLink_19 ?_
      refine k_goto (tgt := 24) X dX10_isLink_20 (by decide) ?_
      exact k_zret X hrt hlk dX10_isLink_24 ⟨Or.inr rfl, ⟨rfl, h⟩⟩
set_option maxHeartbeats 4000000 in
set_option maxRecDepth 100000 in
theorem ct_X10_isOfTwo {l : Launch} {D : va_G} {cA : Nat → ClassId} {ad sa : Nat → Nat} (hj : kInj NM ad) (a1 : Int) (z : Hp) (Kp : Int → Prop) (h : cal_X10_isOfTwo a1 z Kp) : kMet l yX10_isOfTwo cX10_isOfTwo 1 (some .boolean) 0 NM kdM D cA ad sa [kI a1] z (kQi NM kdM D cA ad (fun v z1 => z1 = z ∧ Kp v)) := by
  unfold cal_X10_isOfTwo at h
  refine k_met (cc := cX10_isOfTwo) (own := RX10) (nL := 1) rfl rfl (Nat.le_of_ble_eq_true rfl) hj kltM (fun p e s m below meth c X hrt hlk => ?_)
  refine k_sub (lv' := [(0, kI a1)]) [0] rfl ?_
  refine k_iload_n X dX10_isOfTwo_0 0 rfl ?_
  refine k_if_eq (tgt := 19) X dX10_isOfTwo_1 (by decide) h (fun h => ?_) (fun h => ?_)
  · refine k_iconst X dX10_isOfTwo_19 ?_
    exact k_zret X hrt hlk dX10_isOfTwo_20 ⟨Or.inl rfl, ⟨rfl, h⟩⟩
  · refine k_iload_n X dX10_isOfTwo_4 0 rfl ?_
    refine k_iconst X dX10_isOfTwo_5 ?_
    refine k_icmp_eq (tgt := 19) X dX10_isOfTwo_6 (by decide) ⟨h.1, ⟨by decide, by decide⟩, h.2⟩ (fun h => ?_) (fun h => ?_)
    · refine k_iconst X dX10_isOfTwo_19 ?_
      exact k_zret X hrt hlk dX10_isOfTwo_20 ⟨Or.inl rfl, ⟨rfl, h⟩⟩
    · refine k_iload_n X dX10_isOfTwo_9 0 rfl ?_
      refine k_bipush X dX10_isOfTwo_10 (by decide +kernel) ?_
      refine k_icmp_eq (tgt := 19) X dX10_isOfTwo_12 (by decide) ⟨h.1, ⟨by decide, by decide⟩, h.2⟩ (fun h => ?_) (fun h => ?_)
      · refine k_iconst X dX10_isOfTwo_19 ?_
        exact k_zret X hrt hlk dX10_isOfTwo_20 ⟨Or.inl rfl, ⟨rfl, h⟩⟩
      · refine k_iconst X dX10_isOfTwo_15 ?_
        refine k_goto (tgt := 20) X dX10_isOfTwo_16 (by decide) ?_
        exact k_zret X hrt hlk dX10_isOfTwo_20 ⟨Or.inr rfl, ⟨rfl, h⟩⟩
set_option maxHeartbeats 4000000 in
set_option maxRecDepth 100000 in
theorem ct_X10_isOfYears {l : Launch} {D : va_G} {cA : Nat → ClassId} {ad sa : Nat → Nat} (hj : kInj NM ad) (a1 : Int) (z : Hp) (Kp : Int → Prop) (h : cal_X10_isOfYears a1 z Kp) : kMet l yX10_isOfYears cX10_isOfYears 1 (some .boolean) 0 NM kdM D cA ad sa [kI a1] z (kQi NM kdM D cA ad (fun v z1 => z1 = z ∧ Kp v)) := by
  unfold cal_X10_isOfYears at h
  refine k_met (cc := cX10_isOfYears) (own := RX10) (nL := 1) rfl rfl (Nat.le_of_ble_eq_true rfl) hj kltM (fun p e s m below meth c X hrt hlk => ?_)
  refine k_sub (lv' := [(0, kI a1)]) [0] rfl ?_
  refine k_iload_n X dX10_isOfYears_0 0 rfl ?_
  refine jn_use (fun J1 => J1 → kAt p l e (kR 0) s m ([kI a1] : List Value).toArray below meth c (MQ below (kQi NM kdM D cA ad (fun v z1 => z1 = z ∧ Kp v)) ([kI a1] : List Value).toArray s 0 0 (kA NM ad)) 1 NM kdM D cA ad 14 [] [] z) h ?_ (fun J1 hJ1 h => ?_)
  · intro h
    refine k_iconst X dX10_isOfYears_14 ?_
    refine k_goto (tgt := 19) X dX10_isOfYears_15 (by decide) ?_
    exact k_zret X hrt hlk dX10_isOfYears_19 ⟨Or.inr rfl, ⟨rfl, h⟩⟩
  · refine k_if_eq (tgt := 14) X dX10_isOfYears_1 (by decide) h (fun h => ?_) (fun h => ?_)
    · exact k_sub [] rfl (hJ1 h)
    · refine k_iload_n X dX10_isOfYears_4 0 rfl ?_
      refine k_iconst X dX10_isOfYears_5 ?_
      refine k_icmp_eq (tgt := 14) X dX10_isOfYears_6 (by decide) ⟨h.1, ⟨by decide, by decide⟩, h.2⟩ (fun h => ?_) (fun h => ?_)
      · exact k_sub [] rfl (hJ1 h)
      · refine k_iload_n X dX10_isOfYears_9 0 rfl ?_
        refine k_iconst X dX10_isOfYears_10 ?_
        refine k_icmp_ne (tgt := 18) X dX10_isOfYears_11 (by decide) ⟨h.1, ⟨by decide, by decide⟩, h.2⟩ (fun h => ?_) (fun h => ?_)
        · refine k_iconst X dX10_isOfYears_18 ?_
          exact k_zret X hrt hlk dX10_isOfYears_19 ⟨Or.inl rfl, ⟨rfl, h⟩⟩
        · exact k_sub [] rfl (hJ1 h)
set_option maxHeartbeats 4000000 in
set_option maxRecDepth 100000 in
theorem ct_X10_isStatement {l : Launch} {D : va_G} {cA : Nat → ClassId} {ad sa : Nat → Nat} (hj : kInj NM ad) (a1 : Int) (z : Hp) (Kp : Int → Prop) (h : cal_X10_isStatement a1 z Kp) : kMet l yX10_isStatement cX10_isStatement 2 (some .boolean) 1 NM kdM D cA ad sa [.ref (ad 0), kI a1] z (kQi NM kdM D cA ad (fun v z1 => z1 = z ∧ Kp v)) := by
  unfold cal_X10_isStatement at h
  refine k_met (cc := cX10_isStatement) (own := RX10) (nL := 2) rfl rfl (Nat.le_of_ble_eq_true rfl) hj kltM (fun p e s m below meth c X hrt hlk => ?_)
  refine k_sub (lv' := [(0, .ref (ad 0)), (1, kI a1)]) [0, 1] rfl ?_
  refine k_iload_n X dX10_isStatement_0 1 rfl ?_
  refine k_iconst X dX10_isStatement_1 ?_
  refine k_aload_n X dX10_isStatement_2 0 rfl ?_
  refine k_getR (t := 1) X fk_X10_11 (by rfl) (by decide) rfl dX10_isStatement_3 ?_
  refine k_iconst X dX10_isStatement_6 ?_
  refine k_iald X kzM_1 (Nat.le_of_ble_eq_true rfl) dX10_isStatement_7 ⟨⟨by decide, by decide⟩, h⟩ (fun h => ?_)
  refine k_iconst X dX10_isStatement_8 ?_
  refine k_isub X dX10_isStatement_9 ?_
  refine k_afterP (st := []) (fun H locs ls hP hS hl => k_runS (As := [kI a1, kI 0, kI ((z 1 1) - 1)]) X lk_X10_72 yo_X10_isIn rfl (kR_ok (by decide) (by decide)) (ct_X10_isIn (kCx_j X) _ _ _ _ _ h) (Nat.le_of_ble_eq_true rfl) dX10_isStatement_10 hP hS hl) (fun v1 h => ?_)
  exact k_zret X hrt hlk dX10_isStatement_13 ⟨h.1, ⟨rfl, h.2⟩⟩
set_option maxHeartbeats 4000000 in
set_option maxRecDepth 100000 in
theorem ct_X10_orders {l : Launch} {D : va_G} {cA : Nat → ClassId} {ad sa : Nat → Nat} (hj : kInj NM ad)  (z : Hp) (Kp : Int → Hp → Prop) (h : cal_X10_orders  z Kp) : kMet l yX10_orders cX10_orders 4 (some .int) 2 NM kdM D cA ad sa [.ref (ad 0)] z (kQi NM kdM D cA ad Kp) := by
  unfold cal_X10_orders at h
  refine k_met (cc := cX10_orders) (own := RX10) (nL := 4) rfl rfl (Nat.le_of_ble_eq_true rfl) hj kltM (fun p e s m below meth c X hrt hlk => ?_)
  refine k_sub (lv' := [(0, .ref (ad 0))]) [0] rfl ?_
  refine k_iconst X dX10_orders_0 ?_
  refine k_istore_n X dX10_orders_1 h (fun v1 => [(1, kI v1), (0, .ref (ad 0))]) (by decide) (fun _ => rfl) (fun v1 h => ?_)
  refine k_iconst X dX10_orders_2 ?_
  refine k_istore_n X dX10_orders_3 h (fun v2 => [(2, kI v2), (1, kI v1), (0, .ref (ad 0))]) (by decide) (fun _ => rfl) (fun v2 h => ?_)
  refine k_sub (lv' := [(0, .ref (ad 0)), (1, kI v1), (2, kI v2)]) [2, 1, 0] rfl ?_
  refine h (fun v4 v5 z6 => kAt p l e (kR 2) s m ([.ref (ad 0)] : List Value).toArray below meth c (MQ below (kQi NM kdM D cA ad Kp) ([.ref (ad 0)] : List Value).toArray s 0 0 (kA NM ad)) 4 NM kdM D cA ad 4 [(0, .ref (ad 0)), (1, kI v4), (2, kI v5)] [] z6) (fun v4 v5 z6 h => ?_)
  refine k_iload_n X dX10_orders_4 2 rfl ?_
  refine k_aload_n X dX10_orders_5 0 rfl ?_
  refine k_getR (t := 1) X fk_X10_11 (by rfl) (by decide) rfl dX10_orders_6 ?_
  refine k_iconst X dX10_orders_9 ?_
  refine k_iald X kzM_1 (Nat.le_of_ble_eq_true rfl) dX10_orders_10 ⟨⟨by decide, by decide⟩, h⟩ (fun h => ?_)
  refine k_icmp_ge (tgt := 83) X dX10_orders_11 (by decide) h (fun h => ?_) (fun h => ?_)
  · refine k_iload_n X dX10_orders_83 1 rfl ?_
    exact k_iret X hrt hlk dX10_orders_84 h
  · refine k_aload_n X dX10_orders_14 0 rfl ?_
    refine k_iload_n X dX10_orders_15 2 rfl ?_
    refine k_afterP (st := []) (fun H locs ls hP hS hl => k_runV (As := [kI v5]) X lk_X10_103 rfl yo_X10_isOne rfl (kR_ok (by decide) (by decide)) (ct_X10_isOne (kCx_j X) _ _ _ h) (by rfl) rfl (Nat.le_of_ble_eq_true rfl) dX10_orders_16 hP hS hl) (fun v7 h => ?_)
    refine jn_use (fun J9 => ∀ (v8 : Int) (z10 : Hp), J9 v8 z10 → kAt p l e (kR 2) s m ([.ref (ad 0)] : List Value).toArray below meth c (MQ below (kQi NM kdM D cA ad Kp) ([.ref (ad 0)] : List Value).toArray s 0 0 (kA NM ad)) 4 NM kdM D cA ad 77 [(0, .ref (ad 0)), (1, kI v8), (2, kI v5)] [] z10) h ?_ (fun J9 hJ9 h => ?_)
    · intro v8 z10 h
      refine k_iinc X dX10_orders_77 2 rfl h (fun v11 => [(2, kI v11), (0, .ref (ad 0)), (1, kI v8)]) (by decide) (fun _ => rfl) (fun v11 h => ?_)
      refine k_goto (tgt := 4) X dX10_orders_80 (by decide) ?_
      exact k_sub [1, 2, 0] rfl h
    · refine k_if_ne (tgt := 25) X dX10_orders_19 (by decide) h (fun h => ?_) (fun h => ?_)
      · refine k_iload_n X dX10_orders_25 1 rfl ?_
        refine k_istore_n X dX10_orders_26 h (fun v12 => [(3, kI v12), (0, .ref (ad 0)), (1, kI v4), (2, kI v5)]) (by decide) (fun _ => rfl) (fun v12 h => ?_)
        refine k_sub (lv' := [(0, .ref (ad 0)), (1, kI v4), (2, kI v5), (3, kI v12)]) [1, 2, 3, 0] rfl ?_
        refine h (fun v14 z15 => kAt p l e (kR 2) s m ([.ref (ad 0)] : List Value).toArray below meth c (MQ below (kQi NM kdM D cA ad Kp) ([.ref (ad 0)] : List Value).toArray s 0 0 (kA NM ad)) 4 NM kdM D cA ad 27 [(0, .ref (ad 0)), (1, kI v4), (2, kI v5), (3, kI v14)] [] z15) (fun v14 z15 h => ?_)
        refine k_iload_n X dX10_orders_27 3 rfl ?_
        refine jn_use (fun J17 => ∀ (v16 : Int) (z18 : Hp), J17 v16 z18 → kAt p l e (kR 2) s m ([.ref (ad 0)] : List Value).toArray below meth c (MQ below (kQi NM kdM D cA ad Kp) ([.ref (ad 0)] : List Value).toArray s 0 0 (kA NM ad)) 4 NM kdM D cA ad 67 [(0, .ref (ad 0)), (1, kI v4), (2, kI v5), (3, kI v16)] [] z18) h ?_ (fun J17 hJ17 h => ?_)
        · intro v16 z18 h
          refine k_aload_n X dX10_orders_67 0 rfl ?_
          refine k_getR (t := 16) X fk_X10_57 (by rfl) (by decide) rfl dX10_orders_68 ?_
          refine k_iload_n X dX10_orders_71 3 rfl ?_
          refine k_iload_n X dX10_orders_72 2 rfl ?_
          refine k_iast X kzM_16 (Nat.le_of_ble_eq_true rfl) dX10_orders_73 h (fun h => k_nameH h (fun z19 h => ?_))
          refine k_iinc X dX10_orders_74 1 rfl h (fun v20 => [(1, kI v20), (0, .ref (ad 0)), (2, kI v5), (3, kI v16)]) (by decide) (fun _ => rfl) (fun v20 h => ?_)
          exact k_sub [1, 0, 2] rfl (hJ9 _ _ h)
        · refine k_if_le (tgt := 67) X dX10_orders_28 (by decide) h (fun h => ?_) (fun h => ?_)
          · exact k_sub [0, 1, 2, 3] rfl (hJ17 _ _ h)
          · refine k_aload_n X dX10_orders_31 0 rfl ?_
            refine k_iload_n X dX10_orders_32 2 rfl ?_
            refine k_aload_n X dX10_orders_33 0 rfl ?_
            refine k_getR (t := 16) X fk_X10_57 (by rfl) (by decide) rfl dX10_orders_34 ?_
            refine k_iload_n X dX10_orders_37 3 rfl ?_
            refine k_iconst X dX10_orders_38 ?_
            refine k_isub X dX10_orders_39 ?_
            refine k_iald X kzM_16 (Nat.le_of_ble_eq_true rfl) dX10_orders_40 h (fun h => ?_)
            refine k_afterP (st := []) (fun H locs ls hP hS hl => k_runV (As := [kI v5, kI (z15 16 (v14 - 1).toNat)]) X lk_X10_349 rfl yo_X10_isBornAhead rfl (kR_ok (by decide) (by decide)) (ct_X10_isBornAhead (kCx_j X) _ _ _ _ h) (by rfl) rfl (Nat.le_of_ble_eq_true rfl) dX10_orders_41 hP hS hl) (fun v21 h => ?_)
            refine k_if_eq (tgt := 67) X dX10_orders_44 (by decide) h (fun h => ?_) (fun h => ?_)
            · exact k_sub [0, 1, 2, 3] rfl (hJ17 _ _ h)
            · refine k_aload_n X dX10_orders_47 0 rfl ?_
              refine k_getR (t := 16) X fk_X10_57 (by rfl) (by decide) rfl dX10_orders_48 ?_
              refine k_iload_n X dX10_orders_51 3 rfl ?_
              refine k_aload_n X dX10_orders_52 0 rfl ?_
              refine k_getR (t := 16) X fk_X10_57 (by rfl) (by decide) rfl dX10_orders_53 ?_
              refine k_iload_n X dX10_orders_56 3 rfl ?_
              refine k_iconst X dX10_orders_57 ?_
              refine k_isub X dX10_orders_58 ?_
              refine k_iald X kzM_16 (Nat.le_of_ble_eq_true rfl) dX10_orders_59 h (fun h => ?_)
              refine k_iast X kzM_16 (Nat.le_of_ble_eq_true rfl) dX10_orders_60 h (fun h => k_nameH h (fun z22 h => ?_))
              refine k_iinc X dX10_orders_61 3 rfl h (fun v23 => [(3, kI v23), (0, .ref (ad 0)), (1, kI v4), (2, kI v5)]) (by decide) (fun _ => rfl) (fun v23 h => ?_)
              refine k_goto (tgt := 27) X dX10_orders_64 (by decide) ?_
              exact k_sub [1, 2, 3, 0] rfl h
      · refine k_goto (tgt := 77) X dX10_orders_22 (by decide) ?_
        exact k_sub [0, 1, 2] rfl (hJ9 _ _ h)
set_option maxHeartbeats 4000000 in
set_option maxRecDepth 100000 in
theorem ct_X10_judge {l : Launch} {D : va_G} {cA : Nat → ClassId} {ad sa : Nat → Nat} (hj : kInj NM ad) (a1 : Int) (a2 : Int) (z : Hp) (Kp : Int → Hp → Prop) (h : cal_X10_judge a1 a2 z Kp) : kMet l yX10_judge cX10_judge 5 (some .int) 3 NM kdM D cA ad sa [.ref (ad 0), kI a1, kI a2] z (kQi NM kdM D cA ad Kp) := by
  unfold cal_X10_judge at h
  refine k_met (cc := cX10_judge) (own := RX10) (nL := 5) rfl rfl (Nat.le_of_ble_eq_true rfl) hj kltM (fun p e s m below meth c X hrt hlk => ?_)
  refine k_sub (lv' := [(0, .ref (ad 0)), (1, kI a1), (2, kI a2)]) [0, 1, 2] rfl ?_
  refine k_iload_n X dX10_judge_0 1 rfl ?_
  refine k_afterP (st := []) (fun H locs ls hP hS hl => k_runS (As := [kI a1]) X lk_X10_355 yo_X10_isList rfl (kR_ok (by decide) (by decide)) (ct_X10_isList (kCx_j X) _ _ _ h) (Nat.le_of_ble_eq_true rfl) dX10_judge_1 hP hS hl) (fun v1 h => ?_)
  refine k_if_ne (tgt := 9) X dX10_judge_4 (by decide) h (fun h => ?_) (fun h => ?_)
  · refine k_aload_n X dX10_judge_9 0 rfl ?_
    refine k_getR (t := 18) X fk_X10_63 (by rfl) (by decide) rfl dX10_judge_10 ?_
    refine k_iload_n X dX10_judge_13 1 rfl ?_
    refine k_iald X kzM_18 (Nat.le_of_ble_eq_true rfl) dX10_judge_14 h (fun h => ?_)
    refine k_if_ge (tgt := 21) X dX10_judge_15 (by decide) h (fun h => ?_) (fun h => ?_)
    · refine k_aload_n X dX10_judge_21 0 rfl ?_
      refine k_afterI (st := []) (fun H locs ls hP hS hl => k_runV (As := []) X lk_X10_352 rfl yo_X10_orders rfl (kR_ok (by decide) (by decide)) (ct_X10_orders (kCx_j X)  _ _ h) (by rfl) rfl (Nat.le_of_ble_eq_true rfl) dX10_judge_22 hP hS hl) (fun v3 z2 h => ?_)
      refine k_istore_n X dX10_judge_25 h (fun v4 => [(3, kI v4), (0, .ref (ad 0)), (1, kI a1), (2, kI a2)]) (by decide) (fun _ => rfl) (fun v4 h => ?_)
      refine k_iconst X dX10_judge_26 ?_
      refine k_istore X dX10_judge_27 h (fun v5 => [(4, kI v5), (3, kI v4), (0, .ref (ad 0)), (1, kI a1), (2, kI a2)]) (by decide) (fun _ => rfl) (fun v5 h => ?_)
      refine k_sub (lv' := [(0, .ref (ad 0)), (1, kI a1), (2, kI a2), (3, kI v4), (4, kI v5)]) [2, 3, 4, 1, 0] rfl ?_
      refine h (fun v7 => kAt p l e (kR 3) s m ([.ref (ad 0), kI a1, kI a2] : List Value).toArray below meth c (MQ below (kQi NM kdM D cA ad Kp) ([.ref (ad 0), kI a1, kI a2] : List Value).toArray s 0 0 (kA NM ad)) 5 NM kdM D cA ad 29 [(0, .ref (ad 0)), (1, kI a1), (2, kI a2), (3, kI v4), (4, kI v7)] [] z2) (fun v7 h => ?_)
      refine k_iload X dX10_judge_29 4 rfl ?_
      refine k_iload_n X dX10_judge_31 3 rfl ?_
      refine k_icmp_ge (tgt := 93) X dX10_judge_32 (by decide) h (fun h => ?_) (fun h => ?_)
      · refine k_bipush X dX10_judge_93 (by decide +kernel) ?_
        exact k_iret X hrt hlk dX10_judge_95 h
      · refine k_iload_n X dX10_judge_35 2 rfl ?_
        refine k_iconst X dX10_judge_36 ?_
        refine k_aload_n X dX10_judge_37 0 rfl ?_
        refine k_getR (t := 18) X fk_X10_63 (by rfl) (by decide) rfl dX10_judge_38 ?_
        refine k_iload_n X dX10_judge_41 1 rfl ?_
        refine k_iald X kzM_18 (Nat.le_of_ble_eq_true rfl) dX10_judge_42 h (fun h => ?_)
        refine k_iconst X dX10_judge_43 ?_
        refine k_isub X dX10_judge_44 ?_
        refine k_iload X dX10_judge_45 4 rfl ?_
        refine k_isub X dX10_judge_47 ?_
        refine k_afterP (st := []) (fun H locs ls hP hS hl => k_runS (As := [kI a2, kI 0, kI (((z2 18 a1.toNat) - 1) - v7)]) X lk_X10_72 yo_X10_isIn rfl (kR_ok (by decide) (by decide)) (ct_X10_isIn (kCx_j X) _ _ _ _ _ h) (Nat.le_of_ble_eq_true rfl) dX10_judge_48 hP hS hl) (fun v8 h => ?_)
        refine k_if_ne (tgt := 60) X dX10_judge_51 (by decide) h (fun h => ?_) (fun h => ?_)
        · refine k_aload_n X dX10_judge_60 0 rfl ?_
          refine k_getR (t := 19) X fk_X10_66 (by rfl) (by decide) rfl dX10_judge_61 ?_
          refine k_bipush X dX10_judge_64 (by decide +kernel) ?_
          refine k_iload_n X dX10_judge_66 1 rfl ?_
          refine k_imul X dX10_judge_67 ?_
          refine k_iload_n X dX10_judge_68 2 rfl ?_
          refine k_iadd X dX10_judge_69 ?_
          refine k_iload X dX10_judge_70 4 rfl ?_
          refine k_iadd X dX10_judge_72 ?_
          refine k_iald X kzM_19 (Nat.le_of_ble_eq_true rfl) dX10_judge_73 h (fun h => ?_)
          refine k_aload_n X dX10_judge_74 0 rfl ?_
          refine k_getR (t := 16) X fk_X10_57 (by rfl) (by decide) rfl dX10_judge_75 ?_
          refine k_iload X dX10_judge_78 4 rfl ?_
          refine k_iald X kzM_16 (Nat.le_of_ble_eq_true rfl) dX10_judge_80 h (fun h => ?_)
          refine k_icmp_eq (tgt := 87) X dX10_judge_81 (by decide) h (fun h => ?_) (fun h => ?_)
          · refine k_iinc X dX10_judge_87 4 rfl h (fun v9 => [(4, kI v9), (0, .ref (ad 0)), (1, kI a1), (2, kI a2), (3, kI v4)]) (by decide) (fun _ => rfl) (fun v9 h => ?_)
            refine k_goto (tgt := 29) X dX10_judge_90 (by decide) ?_
            exact k_sub [1, 2, 3, 4, 0] rfl h
          · refine k_iload X dX10_judge_84 4 rfl ?_
            exact k_iret X hrt hlk dX10_judge_86 h
        · refine k_bipush X dX10_judge_54 (by decide +kernel) ?_
          refine k_iload X dX10_judge_56 4 rfl ?_
          refine k_iadd X dX10_judge_58 ?_
          exact k_iret X hrt hlk dX10_judge_59 h
    · refine k_bipush X dX10_judge_18 (by decide +kernel) ?_
      exact k_iret X hrt hlk dX10_judge_20 h
  · refine k_iconst X dX10_judge_7 ?_
    exact k_iret X hrt hlk dX10_judge_8 h
set_option maxHeartbeats 4000000 in
set_option maxRecDepth 100000 in
theorem ct_X10_kin {l : Launch} {D : va_G} {cA : Nat → ClassId} {ad sa : Nat → Nat} (hj : kInj NM ad) (a1 : Int) (a2 : Int) (z : Hp) (Kp : Int → Hp → Prop) (h : cal_X10_kin a1 a2 z Kp) : kMet l yX10_kin cX10_kin 3 (some .int) 3 NM kdM D cA ad sa [.ref (ad 0), kI a1, kI a2] z (kQi NM kdM D cA ad Kp) := by
  unfold cal_X10_kin at h
  refine k_met (cc := cX10_kin) (own := RX10) (nL := 3) rfl rfl (Nat.le_of_ble_eq_true rfl) hj kltM (fun p e s m below meth c X hrt hlk => ?_)
  refine k_sub (lv' := [(0, .ref (ad 0)), (1, kI a1), (2, kI a2)]) [0, 1, 2] rfl ?_
  refine k_aload_n X dX10_kin_0 0 rfl ?_
  refine k_iload_n X dX10_kin_1 1 rfl ?_
  refine k_iload_n X dX10_kin_2 2 rfl ?_
  refine k_afterP (st := []) (fun H locs ls hP hS hl => k_runV (As := [kI a1, kI a2]) X lk_X10_268 rfl yo_X10_areTwo rfl (kR_ok (by decide) (by decide)) (ct_X10_areTwo (kCx_j X) _ _ _ _ h) (by rfl) rfl (Nat.le_of_ble_eq_true rfl) dX10_kin_3 hP hS hl) (fun v1 h => ?_)
  refine k_if_ne (tgt := 11) X dX10_kin_6 (by decide) h (fun h => ?_) (fun h => ?_)
  · refine k_aload_n X dX10_kin_11 0 rfl ?_
    refine k_iload_n X dX10_kin_12 1 rfl ?_
    refine k_iload_n X dX10_kin_13 2 rfl ?_
    refine k_afterI (st := []) (fun H locs ls hP hS hl => k_runV (As := [kI a1, kI a2]) X lk_X10_271 rfl yo_X10_meets rfl (kR_ok (by decide) (by decide)) (ct_X10_meets (kCx_j X) _ _ _ _ h) (by rfl) rfl (Nat.le_of_ble_eq_true rfl) dX10_kin_14 hP hS hl) (fun v3 z2 h => ?_)
    refine k_if_eq (tgt := 45) X dX10_kin_17 (by decide) h (fun h => ?_) (fun h => ?_)
    · refine k_bipush X dX10_kin_45 (by decide +kernel) ?_
      exact k_iret X hrt hlk dX10_kin_47 h
    · refine k_bipush X dX10_kin_20 (by decide +kernel) ?_
      refine k_aload_n X dX10_kin_22 0 rfl ?_
      refine k_getR (t := 13) X fk_X10_48 (by rfl) (by decide) rfl dX10_kin_23 ?_
      refine k_aload_n X dX10_kin_26 0 rfl ?_
      refine k_getI X fk_X10_265 (by rfl) rfl dX10_kin_27 ?_
      refine k_iald X kzM_13 (Nat.le_of_ble_eq_true rfl) dX10_kin_30 h (fun h => ?_)
      refine k_imul X dX10_kin_31 ?_
      refine k_aload_n X dX10_kin_32 0 rfl ?_
      refine k_getR (t := 14) X fk_X10_51 (by rfl) (by decide) rfl dX10_kin_33 ?_
      refine k_aload_n X dX10_kin_36 0 rfl ?_
      refine k_getI X fk_X10_265 (by rfl) rfl dX10_kin_37 ?_
      refine k_iald X kzM_14 (Nat.le_of_ble_eq_true rfl) dX10_kin_40 h (fun h => ?_)
      refine k_iadd X dX10_kin_41 ?_
      refine k_goto (tgt := 47) X dX10_kin_42 (by decide) ?_
      exact k_iret X hrt hlk dX10_kin_47 h
  · refine k_iconst X dX10_kin_9 ?_
    exact k_iret X hrt hlk dX10_kin_10 h
set_option maxHeartbeats 4000000 in
set_option maxRecDepth 100000 in
theorem ct_X10_lay {l : Launch} {D : va_G} {cA : Nat → ClassId} {ad sa : Nat → Nat} (hj : kInj NM ad) (a1 : Int) (a2 : Int) (z : Hp) (Kp : Int → Hp → Prop) (h : cal_X10_lay a1 a2 z Kp) : kMet l yX10_lay cX10_lay 5 (some .int) 3 NM kdM D cA ad sa [.ref (ad 0), kI a1, kI a2] z (kQi NM kdM D cA ad Kp) := by
  unfold cal_X10_lay at h
  refine k_met (cc := cX10_lay) (own := RX10) (nL := 5) rfl rfl (Nat.le_of_ble_eq_true rfl) hj kltM (fun p e s m below meth c X hrt hlk => ?_)
  refine k_sub (lv' := [(0, .ref (ad 0)), (1, kI a1), (2, kI a2)]) [0, 1, 2] rfl ?_
  refine k_iload_n X dX10_lay_0 1 rfl ?_
  refine k_afterP (st := []) (fun H locs ls hP hS hl => k_runS (As := [kI a1]) X lk_X10_355 yo_X10_isList rfl (kR_ok (by decide) (by decide)) (ct_X10_isList (kCx_j X) _ _ _ h) (Nat.le_of_ble_eq_true rfl) dX10_lay_1 hP hS hl) (fun v1 h => ?_)
  refine k_if_ne (tgt := 9) X dX10_lay_4 (by decide) h (fun h => ?_) (fun h => ?_)
  · refine k_aload_n X dX10_lay_9 0 rfl ?_
    refine k_getR (t := 18) X fk_X10_63 (by rfl) (by decide) rfl dX10_lay_10 ?_
    refine k_iload_n X dX10_lay_13 1 rfl ?_
    refine k_iald X kzM_18 (Nat.le_of_ble_eq_true rfl) dX10_lay_14 h (fun h => ?_)
    refine k_if_ge (tgt := 21) X dX10_lay_15 (by decide) h (fun h => ?_) (fun h => ?_)
    · refine k_aload_n X dX10_lay_21 0 rfl ?_
      refine k_afterI (st := []) (fun H locs ls hP hS hl => k_runV (As := []) X lk_X10_352 rfl yo_X10_orders rfl (kR_ok (by decide) (by decide)) (ct_X10_orders (kCx_j X)  _ _ h) (by rfl) rfl (Nat.le_of_ble_eq_true rfl) dX10_lay_22 hP hS hl) (fun v3 z2 h => ?_)
      refine k_istore_n X dX10_lay_25 h (fun v4 => [(3, kI v4), (0, .ref (ad 0)), (1, kI a1), (2, kI a2)]) (by decide) (fun _ => rfl) (fun v4 h => ?_)
      refine k_iconst X dX10_lay_26 ?_
      refine k_istore X dX10_lay_27 h (fun v5 => [(4, kI v5), (3, kI v4), (0, .ref (ad 0)), (1, kI a1), (2, kI a2)]) (by decide) (fun _ => rfl) (fun v5 h => ?_)
      refine k_sub (lv' := [(0, .ref (ad 0)), (1, kI a1), (2, kI a2), (3, kI v4), (4, kI v5)]) [2, 3, 4, 1, 0] rfl ?_
      refine h (fun v7 z8 => kAt p l e (kR 3) s m ([.ref (ad 0), kI a1, kI a2] : List Value).toArray below meth c (MQ below (kQi NM kdM D cA ad Kp) ([.ref (ad 0), kI a1, kI a2] : List Value).toArray s 0 0 (kA NM ad)) 5 NM kdM D cA ad 29 [(0, .ref (ad 0)), (1, kI a1), (2, kI a2), (3, kI v4), (4, kI v7)] [] z8) (fun v7 z8 h => ?_)
      refine k_iload X dX10_lay_29 4 rfl ?_
      refine k_iload_n X dX10_lay_31 3 rfl ?_
      refine jn_use (fun J10 => ∀ (v9 : Int) (z11 : Hp), J10 v9 z11 → kAt p l e (kR 3) s m ([.ref (ad 0), kI a1, kI a2] : List Value).toArray below meth c (MQ below (kQi NM kdM D cA ad Kp) ([.ref (ad 0), kI a1, kI a2] : List Value).toArray s 0 0 (kA NM ad)) 5 NM kdM D cA ad 81 [(3, kI v4), (4, kI v9)] [] z11) h ?_ (fun J10 hJ10 h => ?_)
      · intro v9 z11 h
        refine k_iload X dX10_lay_81 1 rfl ?_
        refine k_iload_n X dX10_lay_83 0 rfl ?_
        refine k_icmp_ge (tgt := 92) X dX10_lay_84 (by decide) h (fun h => ?_) (fun h => ?_)
        · refine k_iload X dX10_lay_92 1 rfl ?_
          exact k_iret X hrt hlk dX10_lay_94 h
        · refine k_bipush X dX10_lay_87 (by decide +kernel) ?_
          refine k_goto (tgt := 94) X dX10_lay_89 (by decide) ?_
          exact k_iret X hrt hlk dX10_lay_94 h
      · refine k_icmp_ge (tgt := 81) X dX10_lay_32 (by decide) h (fun h => ?_) (fun h => ?_)
        · exact k_sub [3, 4] rfl (hJ10 _ _ h)
        · refine k_iload_n X dX10_lay_35 2 rfl ?_
          refine k_iconst X dX10_lay_36 ?_
          refine k_aload_n X dX10_lay_37 0 rfl ?_
          refine k_getR (t := 18) X fk_X10_63 (by rfl) (by decide) rfl dX10_lay_38 ?_
          refine k_iload_n X dX10_lay_41 1 rfl ?_
          refine k_iald X kzM_18 (Nat.le_of_ble_eq_true rfl) dX10_lay_42 h (fun h => ?_)
          refine k_iconst X dX10_lay_43 ?_
          refine k_isub X dX10_lay_44 ?_
          refine k_iload X dX10_lay_45 4 rfl ?_
          refine k_isub X dX10_lay_47 ?_
          refine k_afterP (st := []) (fun H locs ls hP hS hl => k_runS (As := [kI a2, kI 0, kI (((z8 18 a1.toNat) - 1) - v7)]) X lk_X10_72 yo_X10_isIn rfl (kR_ok (by decide) (by decide)) (ct_X10_isIn (kCx_j X) _ _ _ _ _ h) (Nat.le_of_ble_eq_true rfl) dX10_lay_48 hP hS hl) (fun v12 h => ?_)
          refine k_if_eq (tgt := 81) X dX10_lay_51 (by decide) h (fun h => ?_) (fun h => ?_)
          · exact k_sub [3, 4] rfl (hJ10 _ _ h)
          · refine k_aload_n X dX10_lay_54 0 rfl ?_
            refine k_getR (t := 19) X fk_X10_66 (by rfl) (by decide) rfl dX10_lay_55 ?_
            refine k_bipush X dX10_lay_58 (by decide +kernel) ?_
            refine k_iload_n X dX10_lay_60 1 rfl ?_
            refine k_imul X dX10_lay_61 ?_
            refine k_iload_n X dX10_lay_62 2 rfl ?_
            refine k_iadd X dX10_lay_63 ?_
            refine k_iload X dX10_lay_64 4 rfl ?_
            refine k_iadd X dX10_lay_66 ?_
            refine k_aload_n X dX10_lay_67 0 rfl ?_
            refine k_getR (t := 16) X fk_X10_57 (by rfl) (by decide) rfl dX10_lay_68 ?_
            refine k_iload X dX10_lay_71 4 rfl ?_
            refine k_iald X kzM_16 (Nat.le_of_ble_eq_true rfl) dX10_lay_73 h (fun h => ?_)
            refine k_iast X kzM_19 (Nat.le_of_ble_eq_true rfl) dX10_lay_74 h (fun h => k_nameH h (fun z13 h => ?_))
            refine k_iinc X dX10_lay_75 4 rfl h (fun v14 => [(4, kI v14), (0, .ref (ad 0)), (1, kI a1), (2, kI a2), (3, kI v4)]) (by decide) (fun _ => rfl) (fun v14 h => ?_)
            refine k_goto (tgt := 29) X dX10_lay_78 (by decide) ?_
            exact k_sub [1, 2, 3, 4, 0] rfl h
    · refine k_bipush X dX10_lay_18 (by decide +kernel) ?_
      exact k_iret X hrt hlk dX10_lay_20 h
  · refine k_iconst X dX10_lay_7 ?_
    exact k_iret X hrt hlk dX10_lay_8 h
set_option maxHeartbeats 4000000 in
set_option maxRecDepth 100000 in
theorem ct_X10_lettersOnTape {l : Launch} {D : va_G} {cA : Nat → ClassId} {ad sa : Nat → Nat} (hj : kInj NM ad)  (z : Hp) (Kp : Int → Prop) (h : cal_X10_lettersOnTape  z Kp) : kMet l yX10_lettersOnTape cX10_lettersOnTape 2 (some .int) 1 NM kdM D cA ad sa [.ref (ad 0)] z (kQi NM kdM D cA ad (fun v z1 => z1 = z ∧ Kp v)) := by
  unfold cal_X10_lettersOnTape at h
  refine k_met (cc := cX10_lettersOnTape) (own := RX10) (nL := 2) rfl rfl (Nat.le_of_ble_eq_true rfl) hj kltM (fun p e s m below meth c X hrt hlk => ?_)
  refine k_sub (lv' := [(0, .ref (ad 0))]) [0] rfl ?_
  refine k_iconst X dX10_lettersOnTape_0 ?_
  refine k_istore_n X dX10_lettersOnTape_1 h (fun v1 => [(1, kI v1), (0, .ref (ad 0))]) (by decide) (fun _ => rfl) (fun v1 h => ?_)
  refine k_sub (lv' := [(0, .ref (ad 0)), (1, kI v1)]) [1, 0] rfl ?_
  refine h (fun v3 => kAt p l e (kR 1) s m ([.ref (ad 0)] : List Value).toArray below meth c (MQ below (kQi NM kdM D cA ad (fun v z1 => z1 = z ∧ Kp v)) ([.ref (ad 0)] : List Value).toArray s 0 0 (kA NM ad)) 2 NM kdM D cA ad 2 [(0, .ref (ad 0)), (1, kI v3)] [] z) (fun v3 h => ?_)
  refine k_iload_n X dX10_lettersOnTape_2 1 rfl ?_
  refine k_aload_n X dX10_lettersOnTape_3 0 rfl ?_
  refine k_getI X fk_X10_160 (by rfl) rfl dX10_lettersOnTape_4 ?_
  refine k_icmp_ge (tgt := 32) X dX10_lettersOnTape_7 (by decide) h (fun h => ?_) (fun h => ?_)
  · refine k_iload_n X dX10_lettersOnTape_32 1 rfl ?_
    exact k_iret X hrt hlk dX10_lettersOnTape_33 ⟨rfl, h⟩
  · refine k_aload_n X dX10_lettersOnTape_10 0 rfl ?_
    refine k_getR (t := 3) X fk_X10_18 (by rfl) (by decide) rfl dX10_lettersOnTape_11 ?_
    refine k_iload_n X dX10_lettersOnTape_14 1 rfl ?_
    refine k_iald X kzM_3 (Nat.le_of_ble_eq_true rfl) dX10_lettersOnTape_15 h (fun h => ?_)
    refine k_bipush X dX10_lettersOnTape_16 (by decide +kernel) ?_
    refine k_bipush X dX10_lettersOnTape_18 (by decide +kernel) ?_
    refine k_afterP (st := []) (fun H locs ls hP hS hl => k_runS (As := [kI (z 3 v3.toNat), kI 97, kI 122]) X lk_X10_72 yo_X10_isIn rfl (kR_ok (by decide) (by decide)) (ct_X10_isIn (kCx_j X) _ _ _ _ _ h) (Nat.le_of_ble_eq_true rfl) dX10_lettersOnTape_20 hP hS hl) (fun v4 h => ?_)
    refine k_if_eq (tgt := 32) X dX10_lettersOnTape_23 (by decide) h (fun h => ?_) (fun h => ?_)
    · refine k_iload_n X dX10_lettersOnTape_32 1 rfl ?_
      exact k_iret X hrt hlk dX10_lettersOnTape_33 ⟨rfl, h⟩
    · refine k_iinc X dX10_lettersOnTape_26 1 rfl h (fun v5 => [(1, kI v5), (0, .ref (ad 0))]) (by decide) (fun _ => rfl) (fun v5 h => ?_)
      refine k_goto (tgt := 2) X dX10_lettersOnTape_29 (by decide) ?_
      exact k_sub [1, 0] rfl h
set_option maxHeartbeats 4000000 in
set_option maxRecDepth 100000 in
theorem ct_X10_list {l : Launch} {D : va_G} {cA : Nat → ClassId} {ad sa : Nat → Nat} (hj : kInj NM ad) (a1 : Int) (a2 : Int) (z : Hp) (Kp : Int → Hp → Prop) (h : cal_X10_list a1 a2 z Kp) : kMet l yX10_list cX10_list 4 (some .int) 2 NM kdM D cA ad sa [.ref (ad 0), kI a1, kI a2] z (kQi NM kdM D cA ad Kp) := by
  unfold cal_X10_list at h
  refine k_met (cc := cX10_list) (own := RX10) (nL := 4) rfl rfl (Nat.le_of_ble_eq_true rfl) hj kltM (fun p e s m below meth c X hrt hlk => ?_)
  refine k_sub (lv' := [(0, .ref (ad 0)), (1, kI a1), (2, kI a2)]) [0, 1, 2] rfl ?_
  refine k_iload_n X dX10_list_0 1 rfl ?_
  refine k_afterP (st := []) (fun H locs ls hP hS hl => k_runS (As := [kI a1]) X lk_X10_355 yo_X10_isList rfl (kR_ok (by decide) (by decide)) (ct_X10_isList (kCx_j X) _ _ _ h) (Nat.le_of_ble_eq_true rfl) dX10_list_1 hP hS hl) (fun v1 h => ?_)
  refine k_if_ne (tgt := 9) X dX10_list_4 (by decide) h (fun h => ?_) (fun h => ?_)
  · refine k_iload_n X dX10_list_9 2 rfl ?_
    refine k_bipush X dX10_list_10 (by decide +kernel) ?_
    refine k_icmp_le (tgt := 18) X dX10_list_12 (by decide) ⟨h.1, ⟨by decide, by decide⟩, h.2⟩ (fun h => ?_) (fun h => ?_)
    · refine k_iload_n X dX10_list_18 2 rfl ?_
      refine k_if_ge (tgt := 25) X dX10_list_19 (by decide) h (fun h => ?_) (fun h => ?_)
      · refine k_aload_n X dX10_list_25 0 rfl ?_
        refine k_getR (t := 18) X fk_X10_63 (by rfl) (by decide) rfl dX10_list_26 ?_
        refine k_iload_n X dX10_list_29 1 rfl ?_
        refine k_iload_n X dX10_list_30 2 rfl ?_
        refine k_iast X kzM_18 (Nat.le_of_ble_eq_true rfl) dX10_list_31 h (fun h => k_nameH h (fun z2 h => ?_))
        refine k_iconst X dX10_list_32 ?_
        refine k_istore_n X dX10_list_33 h (fun v3 => [(3, kI v3), (0, .ref (ad 0)), (1, kI a1), (2, kI a2)]) (by decide) (fun _ => rfl) (fun v3 h => ?_)
        refine k_sub (lv' := [(0, .ref (ad 0)), (1, kI a1), (2, kI a2), (3, kI v3)]) [1, 2, 3, 0] rfl ?_
        refine h (fun v5 z6 => kAt p l e (kR 2) s m ([.ref (ad 0), kI a1, kI a2] : List Value).toArray below meth c (MQ below (kQi NM kdM D cA ad Kp) ([.ref (ad 0), kI a1, kI a2] : List Value).toArray s 0 0 (kA NM ad)) 4 NM kdM D cA ad 34 [(0, .ref (ad 0)), (1, kI a1), (2, kI a2), (3, kI v5)] [] z6) (fun v5 z6 h => ?_)
        refine k_iload_n X dX10_list_34 3 rfl ?_
        refine k_iload_n X dX10_list_35 2 rfl ?_
        refine k_icmp_ge (tgt := 57) X dX10_list_36 (by decide) h (fun h => ?_) (fun h => ?_)
        · refine k_iconst X dX10_list_57 ?_
          exact k_iret X hrt hlk dX10_list_58 h
        · refine k_aload_n X dX10_list_39 0 rfl ?_
          refine k_getR (t := 19) X fk_X10_66 (by rfl) (by decide) rfl dX10_list_40 ?_
          refine k_bipush X dX10_list_43 (by decide +kernel) ?_
          refine k_iload_n X dX10_list_45 1 rfl ?_
          refine k_imul X dX10_list_46 ?_
          refine k_iload_n X dX10_list_47 3 rfl ?_
          refine k_iadd X dX10_list_48 ?_
          refine k_iconst X dX10_list_49 ?_
          refine k_iast X kzM_19 (Nat.le_of_ble_eq_true rfl) dX10_list_50 h (fun h => k_nameH h (fun z7 h => ?_))
          refine k_iinc X dX10_list_51 3 rfl h (fun v8 => [(3, kI v8), (0, .ref (ad 0)), (1, kI a1), (2, kI a2)]) (by decide) (fun _ => rfl) (fun v8 h => ?_)
          refine k_goto (tgt := 34) X dX10_list_54 (by decide) ?_
          exact k_sub [1, 2, 3, 0] rfl h
      · refine k_bipush X dX10_list_22 (by decide +kernel) ?_
        exact k_iret X hrt hlk dX10_list_24 h
    · refine k_bipush X dX10_list_15 (by decide +kernel) ?_
      exact k_iret X hrt hlk dX10_list_17 h
  · refine k_iconst X dX10_list_7 ?_
    exact k_iret X hrt hlk dX10_list_8 h
set_option maxHeartbeats 4000000 in
set_option maxRecDepth 100000 in
theorem ct_X10_live {l : Launch} {D : va_G} {cA : Nat → ClassId} {ad sa : Nat → Nat} (hj : kInj NM ad) (a1 : Int) (a2 : Int) (z : Hp) (Kp : Int → Hp → Prop) (h : cal_X10_live a1 a2 z Kp) : kMet l yX10_live cX10_live 4 (some .int) 5 NM kdM D cA ad sa [.ref (ad 0), kI a1, kI a2] z (kQi NM kdM D cA ad Kp) := by
  unfold cal_X10_live at h
  refine k_met (cc := cX10_live) (own := RX10) (nL := 4) rfl rfl (Nat.le_of_ble_eq_true rfl) hj kltM (fun p e s m below meth c X hrt hlk => ?_)
  refine k_sub (lv' := [(0, .ref (ad 0)), (1, kI a1), (2, kI a2)]) [0, 1, 2] rfl ?_
  refine k_aload_n X dX10_live_0 0 rfl ?_
  refine k_iload_n X dX10_live_1 1 rfl ?_
  refine k_afterP (st := []) (fun H locs ls hP hS hl => k_runV (As := [kI a1]) X lk_X10_202 rfl yo_X10_isStatement rfl (kR_ok (by decide) (by decide)) (ct_X10_isStatement (kCx_j X) _ _ _ h) (by rfl) rfl (Nat.le_of_ble_eq_true rfl) dX10_live_2 hP hS hl) (fun v1 h => ?_)
  refine k_if_eq (tgt := 17) X dX10_live_5 (by decide) h (fun h => ?_) (fun h => ?_)
  · refine k_iconst X dX10_live_17 ?_
    exact k_iret X hrt hlk dX10_live_18 h
  · refine k_iload_n X dX10_live_8 2 rfl ?_
    refine k_iconst X dX10_live_9 ?_
    refine k_iconst X dX10_live_10 ?_
    refine k_afterP (st := []) (fun H locs ls hP hS hl => k_runS (As := [kI a2, kI 0, kI 1]) X lk_X10_72 yo_X10_isIn rfl (kR_ok (by decide) (by decide)) (ct_X10_isIn (kCx_j X) _ _ _ _ _ h) (Nat.le_of_ble_eq_true rfl) dX10_live_11 hP hS hl) (fun v2 h => ?_)
    refine k_if_ne (tgt := 19) X dX10_live_14 (by decide) h (fun h => ?_) (fun h => ?_)
    · refine k_aload_n X dX10_live_19 0 rfl ?_
      refine k_iload_n X dX10_live_20 1 rfl ?_
      refine k_iconst X dX10_live_21 ?_
      refine k_afterP (st := []) (fun H locs ls hP hS hl => k_runV (As := [kI a1, kI 5]) X lk_X10_76 rfl yo_X10_told rfl (kR_ok (by decide) (by decide)) (ct_X10_told (kCx_j X) _ _ _ _ h) (by rfl) rfl (Nat.le_of_ble_eq_true rfl) dX10_live_22 hP hS hl) (fun v3 h => ?_)
      refine k_istore_n X dX10_live_25 h (fun v4 => [(3, kI v4), (0, .ref (ad 0)), (1, kI a1), (2, kI a2)]) (by decide) (fun _ => rfl) (fun v4 h => ?_)
      refine k_aload_n X dX10_live_26 1 rfl ?_
      refine k_getR (t := 1) X fk_X10_11 (by rfl) (by decide) rfl dX10_live_27 ?_
      refine k_sipush X dX10_live_30 (by decide +kernel) ?_
      refine k_bipush X dX10_live_33 (by decide +kernel) ?_
      refine k_iload_n X dX10_live_35 2 rfl ?_
      refine k_imul X dX10_live_36 ?_
      refine k_iadd X dX10_live_37 ?_
      refine k_iconst X dX10_live_38 ?_
      refine k_iadd X dX10_live_39 ?_
      refine k_iload_n X dX10_live_40 3 rfl ?_
      refine k_iast X kzM_1 (Nat.le_of_ble_eq_true rfl) dX10_live_41 h (fun h => k_nameH h (fun z5 h => ?_))
      refine k_aload_n X dX10_live_42 1 rfl ?_
      refine k_afterV (st := []) (fun H locs ls hP hS hl => k_runV (As := []) X lk_X10_69 rfl yo_X10_works rfl (kR_ok (by decide) (by decide)) (ct_X10_works (kCx_j X)  _ _ h) (by rfl) rfl (Nat.le_of_ble_eq_true rfl) dX10_live_43 hP hS hl) (fun z6 h => ?_)
      refine k_iload_n X dX10_live_46 0 rfl ?_
      exact k_iret X hrt hlk dX10_live_47 h
    · refine k_iconst X dX10_live_17 ?_
      exact k_iret X hrt hlk dX10_live_18 h
set_option maxHeartbeats 4000000 in
set_option maxRecDepth 100000 in
theorem ct_X10_marriages {l : Launch} {D : va_G} {cA : Nat → ClassId} {ad sa : Nat → Nat} (hj : kInj NM ad) (a1 : Int) (z : Hp) (Kp : Int → Prop) (h : cal_X10_marriages a1 z Kp) : kMet l yX10_marriages cX10_marriages 4 (some .int) 2 NM kdM D cA ad sa [.ref (ad 0), kI a1] z (kQi NM kdM D cA ad (fun v z1 => z1 = z ∧ Kp v)) := by
  unfold cal_X10_marriages at h
  refine k_met (cc := cX10_marriages) (own := RX10) (nL := 4) rfl rfl (Nat.le_of_ble_eq_true rfl) hj kltM (fun p e s m below meth c X hrt hlk => ?_)
  refine k_sub (lv' := [(0, .ref (ad 0)), (1, kI a1)]) [0, 1] rfl ?_
  refine k_iconst X dX10_marriages_0 ?_
  refine k_istore_n X dX10_marriages_1 h (fun v1 => [(2, kI v1), (0, .ref (ad 0)), (1, kI a1)]) (by decide) (fun _ => rfl) (fun v1 h => ?_)
  refine k_iconst X dX10_marriages_2 ?_
  refine k_istore_n X dX10_marriages_3 h (fun v2 => [(3, kI v2), (2, kI v1), (0, .ref (ad 0)), (1, kI a1)]) (by decide) (fun _ => rfl) (fun v2 h => ?_)
  refine k_sub (lv' := [(0, .ref (ad 0)), (1, kI a1), (2, kI v1), (3, kI v2)]) [2, 3, 1, 0] rfl ?_
  refine h (fun v4 v5 => kAt p l e (kR 2) s m ([.ref (ad 0), kI a1] : List Value).toArray below meth c (MQ below (kQi NM kdM D cA ad (fun v z1 => z1 = z ∧ Kp v)) ([.ref (ad 0), kI a1] : List Value).toArray s 0 0 (kA NM ad)) 4 NM kdM D cA ad 4 [(0, .ref (ad 0)), (1, kI a1), (2, kI v4), (3, kI v5)] [] z) (fun v4 v5 h => ?_)
  refine k_iload_n X dX10_marriages_4 3 rfl ?_
  refine k_aload_n X dX10_marriages_5 0 rfl ?_
  refine k_getR (t := 1) X fk_X10_11 (by rfl) (by decide) rfl dX10_marriages_6 ?_
  refine k_iconst X dX10_marriages_9 ?_
  refine k_iald X kzM_1 (Nat.le_of_ble_eq_true rfl) dX10_marriages_10 ⟨⟨by decide, by decide⟩, h⟩ (fun h => ?_)
  refine k_icmp_ge (tgt := 67) X dX10_marriages_11 (by decide) h (fun h => ?_) (fun h => ?_)
  · refine k_iload_n X dX10_marriages_67 2 rfl ?_
    exact k_iret X hrt hlk dX10_marriages_68 ⟨rfl, h⟩
  · refine k_iload_n X dX10_marriages_14 2 rfl ?_
    refine k_aload_n X dX10_marriages_15 0 rfl ?_
    refine k_iload_n X dX10_marriages_16 3 rfl ?_
    refine k_iconst X dX10_marriages_17 ?_
    refine k_afterP (st := [kI v4]) (fun H locs ls hP hS hl => k_runV (As := [kI v5, kI 4]) X lk_X10_80 rfl yo_X10_isLive rfl (kR_ok (by decide) (by decide)) (ct_X10_isLive (kCx_j X) _ _ _ _ h) (by rfl) rfl (Nat.le_of_ble_eq_true rfl) dX10_marriages_18 hP hS hl) (fun v6 h => ?_)
    refine jn_use (fun J8 => ∀ (v7 : Int), J8 v7 → kAt p l e (kR 2) s m ([.ref (ad 0), kI a1] : List Value).toArray below meth c (MQ below (kQi NM kdM D cA ad (fun v z1 => z1 = z ∧ Kp v)) ([.ref (ad 0), kI a1] : List Value).toArray s 0 0 (kA NM ad)) 4 NM kdM D cA ad 61 [(0, .ref (ad 0)), (1, kI a1), (2, kI v7), (3, kI v5)] [] z) h ?_ (fun J8 hJ8 h => ?_)
    · intro v7 h
      refine k_iinc X dX10_marriages_61 3 rfl h (fun v9 => [(3, kI v9), (0, .ref (ad 0)), (1, kI a1), (2, kI v7)]) (by decide) (fun _ => rfl) (fun v9 h => ?_)
      refine k_goto (tgt := 4) X dX10_marriages_64 (by decide) ?_
      exact k_sub [1, 2, 3, 0] rfl h
    · refine k_if_eq (tgt := 58) X dX10_marriages_21 (by decide) h (fun h => ?_) (fun h => ?_)
      · refine k_iconst X dX10_marriages_58 ?_
        refine k_iadd X dX10_marriages_59 ?_
        refine k_istore_n X dX10_marriages_60 h (fun v10 => [(2, kI v10), (0, .ref (ad 0)), (1, kI a1), (3, kI v5)]) (by decide) (fun _ => rfl) (fun v10 h => ?_)
        exact k_sub [1, 2, 0, 3] rfl (hJ8 _ h)
      · refine k_aload_n X dX10_marriages_24 0 rfl ?_
        refine k_getR (t := 6) X fk_X10_27 (by rfl) (by decide) rfl dX10_marriages_25 ?_
        refine k_aload_n X dX10_marriages_28 0 rfl ?_
        refine k_iload_n X dX10_marriages_29 3 rfl ?_
        refine k_iconst X dX10_marriages_30 ?_
        refine k_afterP (st := [.ref (ad 6), kI v4]) (fun H locs ls hP hS hl => k_runV (As := [kI v5, kI 1]) X lk_X10_76 rfl yo_X10_told rfl (kR_ok (by decide) (by decide)) (ct_X10_told (kCx_j X) _ _ _ _ h) (by rfl) rfl (Nat.le_of_ble_eq_true rfl) dX10_marriages_31 hP hS hl) (fun v11 h => ?_)
        refine k_iald X kzM_6 (Nat.le_of_ble_eq_true rfl) dX10_marriages_34 h (fun h => ?_)
        refine k_iload_n X dX10_marriages_35 1 rfl ?_
        refine k_icmp_eq (tgt := 54) X dX10_marriages_36 (by decide) h (fun h => ?_) (fun h => ?_)
        · refine k_iconst X dX10_marriages_54 ?_
          refine k_goto (tgt := 59) X dX10_marriages_55 (by decide) ?_
          refine k_iadd X dX10_marriages_59 ?_
          refine k_istore_n X dX10_marriages_60 h (fun v12 => [(2, kI v12), (0, .ref (ad 0)), (1, kI a1), (3, kI v5)]) (by decide) (fun _ => rfl) (fun v12 h => ?_)
          exact k_sub [1, 2, 0, 3] rfl (hJ8 _ h)
        · refine k_aload_n X dX10_marriages_39 0 rfl ?_
          refine k_getR (t := 6) X fk_X10_27 (by rfl) (by decide) rfl dX10_marriages_40 ?_
          refine k_aload_n X dX10_marriages_43 0 rfl ?_
          refine k_iload_n X dX10_marriages_44 3 rfl ?_
          refine k_iconst X dX10_marriages_45 ?_
          refine k_afterP (st := [.ref (ad 6), kI v4]) (fun H locs ls hP hS hl => k_runV (As := [kI v5, kI 2]) X lk_X10_76 rfl yo_X10_told rfl (kR_ok (by decide) (by decide)) (ct_X10_told (kCx_j X) _ _ _ _ h) (by rfl) rfl (Nat.le_of_ble_eq_true rfl) dX10_marriages_46 hP hS hl) (fun v13 h => ?_)
          refine k_iald X kzM_6 (Nat.le_of_ble_eq_true rfl) dX10_marriages_49 h (fun h => ?_)
          refine k_iload_n X dX10_marriages_50 1 rfl ?_
          refine k_icmp_ne (tgt := 58) X dX10_marriages_51 (by decide) h (fun h => ?_) (fun h => ?_)
          · refine k_iconst X dX10_marriages_58 ?_
            refine k_iadd X dX10_marriages_59 ?_
            refine k_istore_n X dX10_marriages_60 h (fun v14 => [(2, kI v14), (0, .ref (ad 0)), (1, kI a1), (3, kI v5)]) (by decide) (fun _ => rfl) (fun v14 h => ?_)
            exact k_sub [1, 2, 0, 3] rfl (hJ8 _ h)
          · refine k_iconst X dX10_marriages_54 ?_
            refine k_goto (tgt := 59) X dX10_marriages_55 (by decide) ?_
            refine k_iadd X dX10_marriages_59 ?_
            refine k_istore_n X dX10_marriages_60 h (fun v15 => [(2, kI v15), (0, .ref (ad 0)), (1, kI a1), (3, kI v5)]) (by decide) (fun _ => rfl) (fun v15 h => ?_)
            exact k_sub [1, 2, 0, 3] rfl (hJ8 _ h)
set_option maxHeartbeats 4000000 in
set_option maxRecDepth 100000 in
theorem ct_X10_marriedTo {l : Launch} {D : va_G} {cA : Nat → ClassId} {ad sa : Nat → Nat} (hj : kInj NM ad) (a1 : Int) (z : Hp) (Kp : Int → Prop) (h : cal_X10_marriedTo a1 z Kp) : kMet l yX10_marriedTo cX10_marriedTo 6 (some .int) 2 NM kdM D cA ad sa [.ref (ad 0), kI a1] z (kQi NM kdM D cA ad (fun v z1 => z1 = z ∧ Kp v)) := by
  unfold cal_X10_marriedTo at h
  refine k_met (cc := cX10_marriedTo) (own := RX10) (nL := 6) rfl rfl (Nat.le_of_ble_eq_true rfl) hj kltM (fun p e s m below meth c X hrt hlk => ?_)
  refine k_sub (lv' := [(0, .ref (ad 0)), (1, kI a1)]) [0, 1] rfl ?_
  refine k_iconst X dX10_marriedTo_0 ?_
  refine k_istore_n X dX10_marriedTo_1 h (fun v1 => [(2, kI v1), (0, .ref (ad 0)), (1, kI a1)]) (by decide) (fun _ => rfl) (fun v1 h => ?_)
  refine k_iconst X dX10_marriedTo_2 ?_
  refine k_istore_n X dX10_marriedTo_3 h (fun v2 => [(3, kI v2), (2, kI v1), (0, .ref (ad 0)), (1, kI a1)]) (by decide) (fun _ => rfl) (fun v2 h => ?_)
  refine k_sub (lv' := [(0, .ref (ad 0)), (1, kI a1), (2, kI v1), (3, kI v2)]) [2, 3, 1, 0] rfl ?_
  refine h (fun v4 v5 => kAt p l e (kR 2) s m ([.ref (ad 0), kI a1] : List Value).toArray below meth c (MQ below (kQi NM kdM D cA ad (fun v z1 => z1 = z ∧ Kp v)) ([.ref (ad 0), kI a1] : List Value).toArray s 0 0 (kA NM ad)) 6 NM kdM D cA ad 4 [(0, .ref (ad 0)), (1, kI a1), (2, kI v4), (3, kI v5)] [] z) (fun v4 v5 h => ?_)
  refine k_iload_n X dX10_marriedTo_4 3 rfl ?_
  refine k_aload_n X dX10_marriedTo_5 0 rfl ?_
  refine k_getR (t := 1) X fk_X10_11 (by rfl) (by decide) rfl dX10_marriedTo_6 ?_
  refine k_iconst X dX10_marriedTo_9 ?_
  refine k_iald X kzM_1 (Nat.le_of_ble_eq_true rfl) dX10_marriedTo_10 ⟨⟨by decide, by decide⟩, h⟩ (fun h => ?_)
  refine k_icmp_ge (tgt := 90) X dX10_marriedTo_11 (by decide) h (fun h => ?_) (fun h => ?_)
  · refine k_iload_n X dX10_marriedTo_90 2 rfl ?_
    exact k_iret X hrt hlk dX10_marriedTo_91 ⟨rfl, h⟩
  · refine k_aload_n X dX10_marriedTo_14 0 rfl ?_
    refine k_iload_n X dX10_marriedTo_15 3 rfl ?_
    refine k_iconst X dX10_marriedTo_16 ?_
    refine k_afterP (st := []) (fun H locs ls hP hS hl => k_runV (As := [kI v5, kI 4]) X lk_X10_80 rfl yo_X10_isLive rfl (kR_ok (by decide) (by decide)) (ct_X10_isLive (kCx_j X) _ _ _ _ h) (by rfl) rfl (Nat.le_of_ble_eq_true rfl) dX10_marriedTo_17 hP hS hl) (fun v6 h => ?_)
    refine jn_use (fun J8 => ∀ (v7 : Int), J8 v7 → kAt p l e (kR 2) s m ([.ref (ad 0), kI a1] : List Value).toArray below meth c (MQ below (kQi NM kdM D cA ad (fun v z1 => z1 = z ∧ Kp v)) ([.ref (ad 0), kI a1] : List Value).toArray s 0 0 (kA NM ad)) 6 NM kdM D cA ad 84 [(0, .ref (ad 0)), (1, kI a1), (2, kI v7), (3, kI v5)] [] z) h ?_ (fun J8 hJ8 h => ?_)
    · intro v7 h
      refine k_iinc X dX10_marriedTo_84 3 rfl h (fun v9 => [(3, kI v9), (0, .ref (ad 0)), (1, kI a1), (2, kI v7)]) (by decide) (fun _ => rfl) (fun v9 h => ?_)
      refine k_goto (tgt := 4) X dX10_marriedTo_87 (by decide) ?_
      exact k_sub [1, 2, 3, 0] rfl h
    · refine k_if_ne (tgt := 26) X dX10_marriedTo_20 (by decide) h (fun h => ?_) (fun h => ?_)
      · refine k_aload_n X dX10_marriedTo_26 0 rfl ?_
        refine k_getR (t := 6) X fk_X10_27 (by rfl) (by decide) rfl dX10_marriedTo_27 ?_
        refine k_aload_n X dX10_marriedTo_30 0 rfl ?_
        refine k_iload_n X dX10_marriedTo_31 3 rfl ?_
        refine k_iconst X dX10_marriedTo_32 ?_
        refine k_afterP (st := [.ref (ad 6)]) (fun H locs ls hP hS hl => k_runV (As := [kI v5, kI 1]) X lk_X10_76 rfl yo_X10_told rfl (kR_ok (by decide) (by decide)) (ct_X10_told (kCx_j X) _ _ _ _ h) (by rfl) rfl (Nat.le_of_ble_eq_true rfl) dX10_marriedTo_33 hP hS hl) (fun v10 h => ?_)
        refine k_iald X kzM_6 (Nat.le_of_ble_eq_true rfl) dX10_marriedTo_36 h (fun h => ?_)
        refine k_istore X dX10_marriedTo_37 h (fun v11 => [(4, kI v11), (0, .ref (ad 0)), (1, kI a1), (2, kI v4), (3, kI v5)]) (by decide) (fun _ => rfl) (fun v11 h => ?_)
        refine k_aload_n X dX10_marriedTo_39 1 rfl ?_
        refine k_getR (t := 6) X fk_X10_27 (by rfl) (by decide) rfl dX10_marriedTo_40 ?_
        refine k_aload_n X dX10_marriedTo_43 1 rfl ?_
        refine k_iload_n X dX10_marriedTo_44 4 rfl ?_
        refine k_iconst X dX10_marriedTo_45 ?_
        refine k_afterP (st := [.ref (ad 6)]) (fun H locs ls hP hS hl => k_runV (As := [kI v5, kI 2]) X lk_X10_76 rfl yo_X10_told rfl (kR_ok (by decide) (by decide)) (ct_X10_told (kCx_j X) _ _ _ _ h) (by rfl) rfl (Nat.le_of_ble_eq_true rfl) dX10_marriedTo_46 hP hS hl) (fun v12 h => ?_)
        refine k_iald X kzM_6 (Nat.le_of_ble_eq_true rfl) dX10_marriedTo_49 h (fun h => ?_)
        refine k_istore X dX10_marriedTo_50 h (fun v13 => [(5, kI v13), (4, kI v11), (0, .ref (ad 0)), (1, kI a1), (2, kI v4), (3, kI v5)]) (by decide) (fun _ => rfl) (fun v13 h => ?_)
        refine k_iload_n X dX10_marriedTo_52 4 rfl ?_
        refine k_iload X dX10_marriedTo_53 1 rfl ?_
        refine k_iload_n X dX10_marriedTo_55 3 rfl ?_
        refine k_icmp_ne (tgt := 66) X dX10_marriedTo_56 (by decide) h (fun h => ?_) (fun h => ?_)
        · refine k_iconst X dX10_marriedTo_66 ?_
          refine k_iload X dX10_marriedTo_67 0 rfl ?_
          refine k_iload_n X dX10_marriedTo_69 3 rfl ?_
          refine k_icmp_ne (tgt := 80) X dX10_marriedTo_70 (by decide) h (fun h => ?_) (fun h => ?_)
          · refine k_iconst X dX10_marriedTo_80 ?_
            refine k_ior X dX10_marriedTo_81 ?_
            refine k_ior X dX10_marriedTo_82 ?_
            refine k_istore_n X dX10_marriedTo_83 h (fun v14 => [(2, kI v14), (5, kI v13), (4, kI v11), (0, .ref (ad 0)), (1, kI a1), (3, kI v5)]) (by decide) (fun _ => rfl) (fun v14 h => ?_)
            exact k_sub [3, 4, 0, 5] rfl (hJ8 _ h)
          · refine k_iconst X dX10_marriedTo_73 ?_
            refine k_iload X dX10_marriedTo_74 1 rfl ?_
            refine k_ishl X dX10_marriedTo_76 ?_
            refine k_goto (tgt := 81) X dX10_marriedTo_77 (by decide) ?_
            refine k_ior X dX10_marriedTo_81 ?_
            refine k_ior X dX10_marriedTo_82 ?_
            refine k_istore_n X dX10_marriedTo_83 h (fun v15 => [(2, kI v15), (5, kI v13), (4, kI v11), (0, .ref (ad 0)), (1, kI a1), (3, kI v5)]) (by decide) (fun _ => rfl) (fun v15 h => ?_)
            exact k_sub [3, 4, 0, 5] rfl (hJ8 _ h)
        · refine k_iconst X dX10_marriedTo_59 ?_
          refine k_iload X dX10_marriedTo_60 0 rfl ?_
          refine k_ishl X dX10_marriedTo_62 ?_
          refine k_goto (tgt := 67) X dX10_marriedTo_63 (by decide) ?_
          refine k_iload X dX10_marriedTo_67 0 rfl ?_
          refine k_iload_n X dX10_marriedTo_69 3 rfl ?_
          refine k_icmp_ne (tgt := 80) X dX10_marriedTo_70 (by decide) h (fun h => ?_) (fun h => ?_)
          · refine k_iconst X dX10_marriedTo_80 ?_
            refine k_ior X dX10_marriedTo_81 ?_
            refine k_ior X dX10_marriedTo_82 ?_
            refine k_istore_n X dX10_marriedTo_83 h (fun v16 => [(2, kI v16), (5, kI v13), (4, kI v11), (0, .ref (ad 0)), (1, kI a1), (3, kI v5)]) (by decide) (fun _ => rfl) (fun v16 h => ?_)
            exact k_sub [3, 4, 0, 5] rfl (hJ8 _ h)
          · refine k_iconst X dX10_marriedTo_73 ?_
            refine k_iload X dX10_marriedTo_74 1 rfl ?_
            refine k_ishl X dX10_marriedTo_76 ?_
            refine k_goto (tgt := 81) X dX10_marriedTo_77 (by decide) ?_
            refine k_ior X dX10_marriedTo_81 ?_
            refine k_ior X dX10_marriedTo_82 ?_
            refine k_istore_n X dX10_marriedTo_83 h (fun v17 => [(2, kI v17), (5, kI v13), (4, kI v11), (0, .ref (ad 0)), (1, kI a1), (3, kI v5)]) (by decide) (fun _ => rfl) (fun v17 h => ?_)
            exact k_sub [3, 4, 0, 5] rfl (hJ8 _ h)
      · refine k_goto (tgt := 84) X dX10_marriedTo_23 (by decide) ?_
        exact k_sub [0, 1, 2, 3] rfl (hJ8 _ h)
set_option maxHeartbeats 4000000 in
set_option maxRecDepth 100000 in
theorem ct_X10_name {l : Launch} {D : va_G} {cA : Nat → ClassId} {ad sa : Nat → Nat} (hj : kInj NM ad) (a1 : Int) (a2 : Int) (z : Hp) (Kp : Int → Prop) (h : cal_X10_name a1 a2 z Kp) : kMet l yX10_name cX10_name 3 (some .int) 2 NM kdM D cA ad sa [.ref (ad 0), kI a1, kI a2] z (kQi NM kdM D cA ad (fun v z1 => z1 = z ∧ Kp v)) := by
  unfold cal_X10_name at h
  refine k_met (cc := cX10_name) (own := RX10) (nL := 3) rfl rfl (Nat.le_of_ble_eq_true rfl) hj kltM (fun p e s m below meth c X hrt hlk => ?_)
  refine k_sub (lv' := [(0, .ref (ad 0)), (1, kI a1), (2, kI a2)]) [0, 1, 2] rfl ?_
  refine k_aload_n X dX10_name_0 0 rfl ?_
  refine k_iload_n X dX10_name_1 1 rfl ?_
  refine k_afterP (st := []) (fun H locs ls hP hS hl => k_runV (As := [kI a1]) X lk_X10_170 rfl yo_X10_isPerson rfl (kR_ok (by decide) (by decide)) (ct_X10_isPerson (kCx_j X) _ _ _ h) (by rfl) rfl (Nat.le_of_ble_eq_true rfl) dX10_name_2 hP hS hl) (fun v1 h => ?_)
  refine k_if_eq (tgt := 22) X dX10_name_5 (by decide) h (fun h => ?_) (fun h => ?_)
  · refine k_iconst X dX10_name_22 ?_
    exact k_iret X hrt hlk dX10_name_23 ⟨rfl, h⟩
  · refine k_iload_n X dX10_name_8 2 rfl ?_
    refine k_iconst X dX10_name_9 ?_
    refine k_icmp_lt (tgt := 22) X dX10_name_10 (by decide) ⟨h.1, ⟨by decide, by decide⟩, h.2⟩ (fun h => ?_) (fun h => ?_)
    · refine k_iconst X dX10_name_22 ?_
      exact k_iret X hrt hlk dX10_name_23 ⟨rfl, h⟩
    · refine k_iload_n X dX10_name_13 2 rfl ?_
      refine k_aload_n X dX10_name_14 0 rfl ?_
      refine k_iload_n X dX10_name_15 1 rfl ?_
      refine k_afterP (st := [kI a2]) (fun H locs ls hP hS hl => k_runV (As := [kI a1]) X lk_X10_222 rfl yo_X10_lengthOf rfl (kR_ok (by decide) (by decide)) (ct_X10_lengthOf (kCx_j X) _ _ _ h) (by rfl) rfl (Nat.le_of_ble_eq_true rfl) dX10_name_16 hP hS hl) (fun v2 h => ?_)
      refine k_icmp_lt (tgt := 24) X dX10_name_19 (by decide) h (fun h => ?_) (fun h => ?_)
      · refine k_iload_n X dX10_name_24 2 rfl ?_
        refine k_if_ge (tgt := 36) X dX10_name_25 (by decide) h (fun h => ?_) (fun h => ?_)
        · refine k_aload_n X dX10_name_36 0 rfl ?_
          refine k_iload_n X dX10_name_37 1 rfl ?_
          refine k_iload_n X dX10_name_38 2 rfl ?_
          refine k_afterP (st := []) (fun H locs ls hP hS hl => k_runV (As := [kI a1, kI a2]) X lk_X10_219 rfl yo_X10_letterOf rfl (kR_ok (by decide) (by decide)) (ct_X10_letterOf (kCx_j X) _ _ _ _ h) (by rfl) rfl (Nat.le_of_ble_eq_true rfl) dX10_name_39 hP hS hl) (fun v3 h => ?_)
          exact k_iret X hrt hlk dX10_name_42 ⟨rfl, h⟩
        · refine k_aload_n X dX10_name_28 0 rfl ?_
          refine k_iload_n X dX10_name_29 1 rfl ?_
          refine k_afterP (st := []) (fun H locs ls hP hS hl => k_runV (As := [kI a1]) X lk_X10_222 rfl yo_X10_lengthOf rfl (kR_ok (by decide) (by decide)) (ct_X10_lengthOf (kCx_j X) _ _ _ h) (by rfl) rfl (Nat.le_of_ble_eq_true rfl) dX10_name_30 hP hS hl) (fun v4 h => ?_)
          refine k_goto (tgt := 42) X dX10_name_33 (by decide) ?_
          exact k_iret X hrt hlk dX10_name_42 ⟨rfl, h⟩
      · refine k_iconst X dX10_name_22 ?_
        exact k_iret X hrt hlk dX10_name_23 ⟨rfl, h⟩
set_option maxHeartbeats 4000000 in
set_option maxRecDepth 100000 in
theorem ct_X10_number {l : Launch} {D : va_G} {cA : Nat → ClassId} {ad sa : Nat → Nat} (hj : kInj NM ad) (a1 : Int) (a2 : Int) (a3 : Int) (z : Hp) (Kp : Int → Hp → Prop) (h : cal_X10_number a1 a2 a3 z Kp) : kMet l yX10_number cX10_number 6 (some .int) 1 NM kdM D cA ad sa [.ref (ad 0), kI a1, kI a2, kI a3] z (kQi NM kdM D cA ad Kp) := by
  unfold cal_X10_number at h
  refine k_met (cc := cX10_number) (own := RX10) (nL := 6) rfl rfl (Nat.le_of_ble_eq_true rfl) hj kltM (fun p e s m below meth c X hrt hlk => ?_)
  refine k_sub (lv' := [(0, .ref (ad 0)), (1, kI a1), (2, kI a2), (3, kI a3)]) [0, 1, 2, 3] rfl ?_
  refine k_aload_n X dX10_number_0 0 rfl ?_
  refine k_getI X fk_X10_173 (by rfl) rfl dX10_number_1 ?_
  refine jn_use (fun J1 => ∀ (z2 : Hp), J1 z2 → kAt p l e (kR 1) s m ([.ref (ad 0), kI a1, kI a2, kI a3] : List Value).toArray below meth c (MQ below (kQi NM kdM D cA ad Kp) ([.ref (ad 0), kI a1, kI a2, kI a3] : List Value).toArray s 0 0 (kA NM ad)) 6 NM kdM D cA ad 53 [(0, .ref (ad 0)), (1, kI a1), (2, kI a2), (3, kI a3)] [] z2) h ?_ (fun J1 hJ1 h => ?_)
  · intro z2 h
    refine k_aload_n X dX10_number_53 0 rfl ?_
    refine k_getI X fk_X10_176 (by rfl) rfl dX10_number_54 ?_
    refine k_istore X dX10_number_57 h (fun v3 => [(4, kI v3), (0, .ref (ad 0)), (1, kI a1), (2, kI a2), (3, kI a3)]) (by decide) (fun _ => rfl) (fun v3 h => ?_)
    refine k_iconst X dX10_number_59 ?_
    refine k_istore X dX10_number_60 h (fun v4 => [(5, kI v4), (4, kI v3), (0, .ref (ad 0)), (1, kI a1), (2, kI a2), (3, kI a3)]) (by decide) (fun _ => rfl) (fun v4 h => ?_)
    refine k_sub (lv' := [(0, .ref (ad 0)), (1, kI a1), (2, kI a2), (3, kI a3), (4, kI v3), (5, kI v4)]) [2, 3, 4, 5, 1, 0] rfl ?_
    refine h (fun v6 z7 => kAt p l e (kR 1) s m ([.ref (ad 0), kI a1, kI a2, kI a3] : List Value).toArray below meth c (MQ below (kQi NM kdM D cA ad Kp) ([.ref (ad 0), kI a1, kI a2, kI a3] : List Value).toArray s 0 0 (kA NM ad)) 6 NM kdM D cA ad 62 [(0, .ref (ad 0)), (1, kI a1), (2, kI a2), (3, kI a3), (4, kI v3), (5, kI v6)] [] z7) (fun v6 z7 h => ?_)
    refine k_aload_n X dX10_number_62 0 rfl ?_
    refine k_getI X fk_X10_173 (by rfl) rfl dX10_number_63 ?_
    refine jn_use (fun J9 => ∀ (v8 : Int) (z10 : Hp), J9 v8 z10 → kAt p l e (kR 1) s m ([.ref (ad 0), kI a1, kI a2, kI a3] : List Value).toArray below meth c (MQ below (kQi NM kdM D cA ad Kp) ([.ref (ad 0), kI a1, kI a2, kI a3] : List Value).toArray s 0 0 (kA NM ad)) 6 NM kdM D cA ad 143 [(0, .ref (ad 0)), (1, kI a1), (2, kI a2), (3, kI a3), (4, kI v3), (5, kI v8)] [] z10) h ?_ (fun J9 hJ9 h => ?_)
    · intro v8 z10 h
      refine k_aload_n X dX10_number_143 0 rfl ?_
      refine k_getI X fk_X10_176 (by rfl) rfl dX10_number_144 ?_
      refine k_iload X dX10_number_147 4 rfl ?_
      refine jn_use (fun J11 => ∀ (z12 : Hp), J11 z12 → kAt p l e (kR 1) s m ([.ref (ad 0), kI a1, kI a2, kI a3] : List Value).toArray below meth c (MQ below (kQi NM kdM D cA ad Kp) ([.ref (ad 0), kI a1, kI a2, kI a3] : List Value).toArray s 0 0 (kA NM ad)) 6 NM kdM D cA ad 160 [(0, .ref (ad 0)), (1, kI a1), (2, kI a2), (3, kI a3), (4, kI v3), (5, kI v8)] [] z12) h ?_ (fun J11 hJ11 h => ?_)
      · intro z12 h
        refine k_iload X dX10_number_160 5 rfl ?_
        refine k_iload_n X dX10_number_162 1 rfl ?_
        refine k_iload_n X dX10_number_163 2 rfl ?_
        refine k_afterP (st := []) (fun H locs ls hP hS hl => k_runS (As := [kI v8, kI a1, kI a2]) X lk_X10_72 yo_X10_isIn rfl (kR_ok (by decide) (by decide)) (ct_X10_isIn (kCx_j X) _ _ _ _ _ h) (Nat.le_of_ble_eq_true rfl) dX10_number_164 hP hS hl) (fun v13 h => ?_)
        refine jn_use (fun J14 => J14 → kAt p l e (kR 1) s m ([.ref (ad 0), kI a1, kI a2, kI a3] : List Value).toArray below meth c (MQ below (kQi NM kdM D cA ad Kp) ([.ref (ad 0), kI a1, kI a2, kI a3] : List Value).toArray s 0 0 (kA NM ad)) 6 NM kdM D cA ad 176 [(0, .ref (ad 0)), (4, kI v3), (5, kI v8)] [] z12) h ?_ (fun J14 hJ14 h => ?_)
        · intro h
          refine k_aload_n X dX10_number_176 0 rfl ?_
          refine k_iload X dX10_number_177 1 rfl ?_
          refine k_afterV (st := []) (fun H locs ls hP hS hl => k_runV (As := [kI v3]) X lk_X10_179 rfl yo_X10_fails rfl (kR_ok (by decide) (by decide)) (ct_X10_fails (kCx_j X) _ _ _ h) (by rfl) rfl (Nat.le_of_ble_eq_true rfl) dX10_number_179 hP hS hl) (fun z15 h => ?_)
          refine k_iload X dX10_number_182 2 rfl ?_
          exact k_iret X hrt hlk dX10_number_184 h
        · refine k_if_eq (tgt := 176) X dX10_number_167 (by decide) h (fun h => ?_) (fun h => ?_)
          · exact k_sub [0, 4, 5] rfl (hJ14 h)
          · refine k_iload X dX10_number_170 5 rfl ?_
            refine k_iload_n X dX10_number_172 3 rfl ?_
            refine k_icmp_ne (tgt := 182) X dX10_number_173 (by decide) h (fun h => ?_) (fun h => ?_)
            · refine k_iload X dX10_number_182 5 rfl ?_
              exact k_iret X hrt hlk dX10_number_184 h
            · exact k_sub [0, 4, 5] rfl (hJ14 h)
      · refine k_icmp_ne (tgt := 160) X dX10_number_149 (by decide) h (fun h => ?_) (fun h => ?_)
        · exact k_sub [0, 1, 2, 3, 4, 5] rfl (hJ11 _ h)
        · refine k_aload_n X dX10_number_152 0 rfl ?_
          refine k_aload_n X dX10_number_153 0 rfl ?_
          refine k_getI X fk_X10_176 (by rfl) rfl dX10_number_154 ?_
          refine k_afterV (st := []) (fun H locs ls hP hS hl => k_runV (As := [kI (z10 0 8)]) X lk_X10_179 rfl yo_X10_fails rfl (kR_ok (by decide) (by decide)) (ct_X10_fails (kCx_j X) _ _ _ h) (by rfl) rfl (Nat.le_of_ble_eq_true rfl) dX10_number_157 hP hS hl) (fun z16 h => ?_)
          exact k_sub [0, 1, 2, 3, 4, 5] rfl (hJ11 _ h)
    · refine k_if_ge (tgt := 143) X dX10_number_66 (by decide) h (fun h => ?_) (fun h => ?_)
      · exact k_sub [0, 1, 2, 3, 4, 5] rfl (hJ9 _ _ h)
      · refine k_aload_n X dX10_number_69 0 rfl ?_
        refine k_getI X fk_X10_176 (by rfl) rfl dX10_number_70 ?_
        refine k_aload_n X dX10_number_73 0 rfl ?_
        refine k_getI X fk_X10_160 (by rfl) rfl dX10_number_74 ?_
        refine k_icmp_ge (tgt := 143) X dX10_number_77 (by decide) h (fun h => ?_) (fun h => ?_)
        · exact k_sub [0, 1, 2, 3, 4, 5] rfl (hJ9 _ _ h)
        · refine k_aload_n X dX10_number_80 0 rfl ?_
          refine k_getI X fk_X10_176 (by rfl) rfl dX10_number_81 ?_
          refine k_iload X dX10_number_84 4 rfl ?_
          refine k_iconst X dX10_number_86 ?_
          refine k_iadd X dX10_number_87 ?_
          refine k_icmp_ge (tgt := 143) X dX10_number_88 (by decide) h (fun h => ?_) (fun h => ?_)
          · exact k_sub [0, 1, 2, 3, 4, 5] rfl (hJ9 _ _ h)
          · refine k_aload_n X dX10_number_91 0 rfl ?_
            refine k_getR (t := 3) X fk_X10_18 (by rfl) (by decide) rfl dX10_number_92 ?_
            refine k_aload_n X dX10_number_95 0 rfl ?_
            refine k_getI X fk_X10_176 (by rfl) rfl dX10_number_96 ?_
            refine k_iald X kzM_3 (Nat.le_of_ble_eq_true rfl) dX10_number_99 h (fun h => ?_)
            refine k_bipush X dX10_number_100 (by decide +kernel) ?_
            refine k_bipush X dX10_number_102 (by decide +kernel) ?_
            refine k_afterP (st := []) (fun H locs ls hP hS hl => k_runS (As := [kI (z7 3 (z7 0 8).toNat), kI 48, kI 57]) X lk_X10_72 yo_X10_isIn rfl (kR_ok (by decide) (by decide)) (ct_X10_isIn (kCx_j X) _ _ _ _ _ h) (Nat.le_of_ble_eq_true rfl) dX10_number_104 hP hS hl) (fun v17 h => ?_)
            refine k_if_eq (tgt := 143) X dX10_number_107 (by decide) h (fun h => ?_) (fun h => ?_)
            · exact k_sub [0, 1, 2, 3, 4, 5] rfl (hJ9 _ _ h)
            · refine k_bipush X dX10_number_110 (by decide +kernel) ?_
              refine k_iload X dX10_number_112 5 rfl ?_
              refine k_imul X dX10_number_114 ?_
              refine k_aload_n X dX10_number_115 0 rfl ?_
              refine k_getR (t := 3) X fk_X10_18 (by rfl) (by decide) rfl dX10_number_116 ?_
              refine k_aload_n X dX10_number_119 0 rfl ?_
              refine k_getI X fk_X10_176 (by rfl) rfl dX10_number_120 ?_
              refine k_iald X kzM_3 (Nat.le_of_ble_eq_true rfl) dX10_number_123 h (fun h => ?_)
              refine k_iadd X dX10_number_124 ?_
              refine k_bipush X dX10_number_125 (by decide +kernel) ?_
              refine k_isub X dX10_number_127 ?_
              refine k_istore X dX10_number_128 h (fun v18 => [(5, kI v18), (0, .ref (ad 0)), (1, kI a1), (2, kI a2), (3, kI a3), (4, kI v3)]) (by decide) (fun _ => rfl) (fun v18 h => ?_)
              refine k_aload_n X dX10_number_130 1 rfl ?_
              refine k_dup X dX10_number_131 rfl ?_
              refine k_getI X fk_X10_176 (by rfl) rfl dX10_number_132 ?_
              refine k_iconst X dX10_number_135 ?_
              refine k_iadd X dX10_number_136 ?_
              refine k_putI X fp_X10_176 (by rfl) rfl dX10_number_137 (k_nameH h (fun z19 h => ?_))
              refine k_goto (tgt := 62) X dX10_number_140 (by decide) ?_
              exact k_sub [1, 2, 3, 4, 5, 0] rfl h
  · refine jn_use (fun J20 => ∀ (z21 : Hp), J20 z21 → kAt p l e (kR 1) s m ([.ref (ad 0), kI a1, kI a2, kI a3] : List Value).toArray below meth c (MQ below (kQi NM kdM D cA ad Kp) ([.ref (ad 0), kI a1, kI a2, kI a3] : List Value).toArray s 0 0 (kA NM ad)) 6 NM kdM D cA ad 45 [(0, .ref (ad 0)), (1, kI a1), (2, kI a2), (3, kI a3)] [] z21) h ?_ (fun J20 hJ20 h => ?_)
    · intro z21 h
      refine k_aload_n X dX10_number_45 0 rfl ?_
      refine k_aload_n X dX10_number_46 0 rfl ?_
      refine k_getI X fk_X10_176 (by rfl) rfl dX10_number_47 ?_
      refine k_afterV (st := []) (fun H locs ls hP hS hl => k_runV (As := [kI (z21 0 8)]) X lk_X10_179 rfl yo_X10_fails rfl (kR_ok (by decide) (by decide)) (ct_X10_fails (kCx_j X) _ _ _ h) (by rfl) rfl (Nat.le_of_ble_eq_true rfl) dX10_number_50 hP hS hl) (fun z22 h => ?_)
      exact k_sub [0, 1, 2, 3] rfl (hJ1 _ h)
    · refine k_if_ge (tgt := 45) X dX10_number_4 (by decide) h (fun h => ?_) (fun h => ?_)
      · exact k_sub [0, 1, 2, 3] rfl (hJ20 _ h)
      · refine k_aload_n X dX10_number_7 0 rfl ?_
        refine k_getI X fk_X10_176 (by rfl) rfl dX10_number_8 ?_
        refine k_aload_n X dX10_number_11 0 rfl ?_
        refine k_getI X fk_X10_160 (by rfl) rfl dX10_number_12 ?_
        refine k_icmp_ge (tgt := 45) X dX10_number_15 (by decide) h (fun h => ?_) (fun h => ?_)
        · exact k_sub [0, 1, 2, 3] rfl (hJ20 _ h)
        · refine k_aload_n X dX10_number_18 0 rfl ?_
          refine k_getR (t := 3) X fk_X10_18 (by rfl) (by decide) rfl dX10_number_19 ?_
          refine k_aload_n X dX10_number_22 0 rfl ?_
          refine k_getI X fk_X10_176 (by rfl) rfl dX10_number_23 ?_
          refine k_iald X kzM_3 (Nat.le_of_ble_eq_true rfl) dX10_number_26 h (fun h => ?_)
          refine k_bipush X dX10_number_27 (by decide +kernel) ?_
          refine k_icmp_ne (tgt := 45) X dX10_number_29 (by decide) ⟨h.1, ⟨by decide, by decide⟩, h.2⟩ (fun h => ?_) (fun h => ?_)
          · exact k_sub [0, 1, 2, 3] rfl (hJ20 _ h)
          · refine k_aload_n X dX10_number_32 0 rfl ?_
            refine k_dup X dX10_number_33 rfl ?_
            refine k_getI X fk_X10_176 (by rfl) rfl dX10_number_34 ?_
            refine k_iconst X dX10_number_37 ?_
            refine k_iadd X dX10_number_38 ?_
            refine k_putI X fp_X10_176 (by rfl) rfl dX10_number_39 (k_nameH h (fun z23 h => ?_))
            refine k_goto (tgt := 53) X dX10_number_42 (by decide) ?_
            exact k_sub [0, 1, 2, 3] rfl (hJ1 _ h)
set_option maxHeartbeats 4000000 in
set_option maxRecDepth 100000 in
theorem ct_X10_sortOf {l : Launch} {D : va_G} {cA : Nat → ClassId} {ad sa : Nat → Nat} (hj : kInj NM ad) (a1 : Int) (z : Hp) (Kp : Int → Prop) (h : cal_X10_sortOf a1 z Kp) : kMet l yX10_sortOf cX10_sortOf 1 (some .int) 0 NM kdM D cA ad sa [kI a1] z (kQi NM kdM D cA ad (fun v z1 => z1 = z ∧ Kp v)) := by
  unfold cal_X10_sortOf at h
  refine k_met (cc := cX10_sortOf) (own := RX10) (nL := 1) rfl rfl (Nat.le_of_ble_eq_true rfl) hj kltM (fun p e s m below meth c X hrt hlk => ?_)
  refine k_sub (lv' := [(0, kI a1)]) [0] rfl ?_
  refine k_iload_n X dX10_sortOf_0 0 rfl ?_
  obtain ⟨hr1, h⟩ := h
  by_cases q2 : a1 = 98
  · rw [if_pos q2] at h
    refine k_swin (tgt := 104) X dX10_sortOf_1 hr1 q2 (by decide) (by decide) rfl (by decide) ?_
    refine k_iconst X dX10_sortOf_104 ?_
    exact k_iret X hrt hlk dX10_sortOf_105 ⟨rfl, h⟩
  rw [if_neg q2] at h
  by_cases q3 : a1 = 99
  · rw [if_pos q3] at h
    refine k_swin (tgt := 119) X dX10_sortOf_1 hr1 q3 (by decide) (by decide) rfl (by decide) ?_
    refine k_iload_n X dX10_sortOf_119 0 rfl ?_
    refine k_bipush X dX10_sortOf_120 (by decide +kernel) ?_
    refine k_icmp_ne (tgt := 130) X dX10_sortOf_122 (by decide) ⟨h.1, ⟨by decide, by decide⟩, h.2⟩ (fun h => ?_) (fun h => ?_)
    · refine k_iconst X dX10_sortOf_130 ?_
      exact k_iret X hrt hlk dX10_sortOf_131 ⟨rfl, h⟩
    · refine k_bipush X dX10_sortOf_125 (by decide +kernel) ?_
      refine k_goto (tgt := 131) X dX10_sortOf_127 (by decide) ?_
      exact k_iret X hrt hlk dX10_sortOf_131 ⟨rfl, h⟩
  rw [if_neg q3] at h
  by_cases q4 : a1 = 100
  · rw [if_pos q4] at h
    refine k_swin (tgt := 106) X dX10_sortOf_1 hr1 q4 (by decide) (by decide) rfl (by decide) ?_
    refine k_iconst X dX10_sortOf_106 ?_
    exact k_iret X hrt hlk dX10_sortOf_107 ⟨rfl, h⟩
  rw [if_neg q4] at h
  by_cases q5 : a1 = 101
  · rw [if_pos q5] at h
    refine k_swin (tgt := 119) X dX10_sortOf_1 hr1 q5 (by decide) (by decide) rfl (by decide) ?_
    refine k_iload_n X dX10_sortOf_119 0 rfl ?_
    refine k_bipush X dX10_sortOf_120 (by decide +kernel) ?_
    refine k_icmp_ne (tgt := 130) X dX10_sortOf_122 (by decide) ⟨h.1, ⟨by decide, by decide⟩, h.2⟩ (fun h => ?_) (fun h => ?_)
    · refine k_iconst X dX10_sortOf_130 ?_
      exact k_iret X hrt hlk dX10_sortOf_131 ⟨rfl, h⟩
    · refine k_bipush X dX10_sortOf_125 (by decide +kernel) ?_
      refine k_goto (tgt := 131) X dX10_sortOf_127 (by decide) ?_
      exact k_iret X hrt hlk dX10_sortOf_131 ⟨rfl, h⟩
  rw [if_neg q5] at h
  by_cases q6 : a1 = 102
  · rw [if_pos q6] at h
    refine k_swin (tgt := 110) X dX10_sortOf_1 hr1 q6 (by decide) (by decide) rfl (by decide) ?_
    refine k_iconst X dX10_sortOf_110 ?_
    exact k_iret X hrt hlk dX10_sortOf_111 ⟨rfl, h⟩
  rw [if_neg q6] at h
  by_cases q7 : a1 = 103
  · rw [if_pos q7] at h
    refine k_swin (tgt := 119) X dX10_sortOf_1 hr1 q7 (by decide) (by decide) rfl (by decide) ?_
    refine k_iload_n X dX10_sortOf_119 0 rfl ?_
    refine k_bipush X dX10_sortOf_120 (by decide +kernel) ?_
    refine k_icmp_ne (tgt := 130) X dX10_sortOf_122 (by decide) ⟨h.1, ⟨by decide, by decide⟩, h.2⟩ (fun h => ?_) (fun h => ?_)
    · refine k_iconst X dX10_sortOf_130 ?_
      exact k_iret X hrt hlk dX10_sortOf_131 ⟨rfl, h⟩
    · refine k_bipush X dX10_sortOf_125 (by decide +kernel) ?_
      refine k_goto (tgt := 131) X dX10_sortOf_127 (by decide) ?_
      exact k_iret X hrt hlk dX10_sortOf_131 ⟨rfl, h⟩
  rw [if_neg q7] at h
  by_cases q8 : a1 = 104
  · rw [if_pos q8] at h
    refine k_swin (tgt := 119) X dX10_sortOf_1 hr1 q8 (by decide) (by decide) rfl (by decide) ?_
    refine k_iload_n X dX10_sortOf_119 0 rfl ?_
    refine k_bipush X dX10_sortOf_120 (by decide +kernel) ?_
    refine k_icmp_ne (tgt := 130) X dX10_sortOf_122 (by decide) ⟨h.1, ⟨by decide, by decide⟩, h.2⟩ (fun h => ?_) (fun h => ?_)
    · refine k_iconst X dX10_sortOf_130 ?_
      exact k_iret X hrt hlk dX10_sortOf_131 ⟨rfl, h⟩
    · refine k_bipush X dX10_sortOf_125 (by decide +kernel) ?_
      refine k_goto (tgt := 131) X dX10_sortOf_127 (by decide) ?_
      exact k_iret X hrt hlk dX10_sortOf_131 ⟨rfl, h⟩
  rw [if_neg q8] at h
  by_cases q9 : a1 = 105
  · rw [if_pos q9] at h
    refine k_swin (tgt := 119) X dX10_sortOf_1 hr1 q9 (by decide) (by decide) rfl (by decide) ?_
    refine k_iload_n X dX10_sortOf_119 0 rfl ?_
    refine k_bipush X dX10_sortOf_120 (by decide +kernel) ?_
    refine k_icmp_ne (tgt := 130) X dX10_sortOf_122 (by decide) ⟨h.1, ⟨by decide, by decide⟩, h.2⟩ (fun h => ?_) (fun h => ?_)
    · refine k_iconst X dX10_sortOf_130 ?_
      exact k_iret X hrt hlk dX10_sortOf_131 ⟨rfl, h⟩
    · refine k_bipush X dX10_sortOf_125 (by decide +kernel) ?_
      refine k_goto (tgt := 131) X dX10_sortOf_127 (by decide) ?_
      exact k_iret X hrt hlk dX10_sortOf_131 ⟨rfl, h⟩
  rw [if_neg q9] at h
  by_cases q10 : a1 = 106
  · rw [if_pos q10] at h
    refine k_swin (tgt := 119) X dX10_sortOf_1 hr1 q10 (by decide) (by decide) rfl (by decide) ?_
    refine k_iload_n X dX10_sortOf_119 0 rfl ?_
    refine k_bipush X dX10_sortOf_120 (by decide +kernel) ?_
    refine k_icmp_ne (tgt := 130) X dX10_sortOf_122 (by decide) ⟨h.1, ⟨by decide, by decide⟩, h.2⟩ (fun h => ?_) (fun h => ?_)
    · refine k_iconst X dX10_sortOf_130 ?_
      exact k_iret X hrt hlk dX10_sortOf_131 ⟨rfl, h⟩
    · refine k_bipush X dX10_sortOf_125 (by decide +kernel) ?_
      refine k_goto (tgt := 131) X dX10_sortOf_127 (by decide) ?_
      exact k_iret X hrt hlk dX10_sortOf_131 ⟨rfl, h⟩
  rw [if_neg q10] at h
  by_cases q11 : a1 = 107
  · rw [if_pos q11] at h
    refine k_swin (tgt := 119) X dX10_sortOf_1 hr1 q11 (by decide) (by decide) rfl (by decide) ?_
    refine k_iload_n X dX10_sortOf_119 0 rfl ?_
    refine k_bipush X dX10_sortOf_120 (by decide +kernel) ?_
    refine k_icmp_ne (tgt := 130) X dX10_sortOf_122 (by decide) ⟨h.1, ⟨by decide, by decide⟩, h.2⟩ (fun h => ?_) (fun h => ?_)
    · refine k_iconst X dX10_sortOf_130 ?_
      exact k_iret X hrt hlk dX10_sortOf_131 ⟨rfl, h⟩
    · refine k_bipush X dX10_sortOf_125 (by decide +kernel) ?_
      refine k_goto (tgt := 131) X dX10_sortOf_127 (by decide) ?_
      exact k_iret X hrt hlk dX10_sortOf_131 ⟨rfl, h⟩
  rw [if_neg q11] at h
  by_cases q12 : a1 = 108
  · rw [if_pos q12] at h
    refine k_swin (tgt := 116) X dX10_sortOf_1 hr1 q12 (by decide) (by decide) rfl (by decide) ?_
    refine k_bipush X dX10_sortOf_116 (by decide +kernel) ?_
    exact k_iret X hrt hlk dX10_sortOf_118 ⟨rfl, h⟩
  rw [if_neg q12] at h
  by_cases q13 : a1 = 109
  · rw [if_pos q13] at h
    refine k_swin (tgt := 108) X dX10_sortOf_1 hr1 q13 (by decide) (by decide) rfl (by decide) ?_
    refine k_iconst X dX10_sortOf_108 ?_
    exact k_iret X hrt hlk dX10_sortOf_109 ⟨rfl, h⟩
  rw [if_neg q13] at h
  by_cases q14 : a1 = 110
  · rw [if_pos q14] at h
    refine k_swin (tgt := 119) X dX10_sortOf_1 hr1 q14 (by decide) (by decide) rfl (by decide) ?_
    refine k_iload_n X dX10_sortOf_119 0 rfl ?_
    refine k_bipush X dX10_sortOf_120 (by decide +kernel) ?_
    refine k_icmp_ne (tgt := 130) X dX10_sortOf_122 (by decide) ⟨h.1, ⟨by decide, by decide⟩, h.2⟩ (fun h => ?_) (fun h => ?_)
    · refine k_iconst X dX10_sortOf_130 ?_
      exact k_iret X hrt hlk dX10_sortOf_131 ⟨rfl, h⟩
    · refine k_bipush X dX10_sortOf_125 (by decide +kernel) ?_
      refine k_goto (tgt := 131) X dX10_sortOf_127 (by decide) ?_
      exact k_iret X hrt hlk dX10_sortOf_131 ⟨rfl, h⟩
  rw [if_neg q14] at h
  by_cases q15 : a1 = 111
  · rw [if_pos q15] at h
    refine k_swin (tgt := 119) X dX10_sortOf_1 hr1 q15 (by decide) (by decide) rfl (by decide) ?_
    refine k_iload_n X dX10_sortOf_119 0 rfl ?_
    refine k_bipush X dX10_sortOf_120 (by decide +kernel) ?_
    refine k_icmp_ne (tgt := 130) X dX10_sortOf_122 (by decide) ⟨h.1, ⟨by decide, by decide⟩, h.2⟩ (fun h => ?_) (fun h => ?_)
    · refine k_iconst X dX10_sortOf_130 ?_
      exact k_iret X hrt hlk dX10_sortOf_131 ⟨rfl, h⟩
    · refine k_bipush X dX10_sortOf_125 (by decide +kernel) ?_
      refine k_goto (tgt := 131) X dX10_sortOf_127 (by decide) ?_
      exact k_iret X hrt hlk dX10_sortOf_131 ⟨rfl, h⟩
  rw [if_neg q15] at h
  by_cases q16 : a1 = 112
  · rw [if_pos q16] at h
    refine k_swin (tgt := 119) X dX10_sortOf_1 hr1 q16 (by decide) (by decide) rfl (by decide) ?_
    refine k_iload_n X dX10_sortOf_119 0 rfl ?_
    refine k_bipush X dX10_sortOf_120 (by decide +kernel) ?_
    refine k_icmp_ne (tgt := 130) X dX10_sortOf_122 (by decide) ⟨h.1, ⟨by decide, by decide⟩, h.2⟩ (fun h => ?_) (fun h => ?_)
    · refine k_iconst X dX10_sortOf_130 ?_
      exact k_iret X hrt hlk dX10_sortOf_131 ⟨rfl, h⟩
    · refine k_bipush X dX10_sortOf_125 (by decide +kernel) ?_
      refine k_goto (tgt := 131) X dX10_sortOf_127 (by decide) ?_
      exact k_iret X hrt hlk dX10_sortOf_131 ⟨rfl, h⟩
  rw [if_neg q16] at h
  by_cases q17 : a1 = 113
  · rw [if_pos q17] at h
    refine k_swin (tgt := 119) X dX10_sortOf_1 hr1 q17 (by decide) (by decide) rfl (by decide) ?_
    refine k_iload_n X dX10_sortOf_119 0 rfl ?_
    refine k_bipush X dX10_sortOf_120 (by decide +kernel) ?_
    refine k_icmp_ne (tgt := 130) X dX10_sortOf_122 (by decide) ⟨h.1, ⟨by decide, by decide⟩, h.2⟩ (fun h => ?_) (fun h => ?_)
    · refine k_iconst X dX10_sortOf_130 ?_
      exact k_iret X hrt hlk dX10_sortOf_131 ⟨rfl, h⟩
    · refine k_bipush X dX10_sortOf_125 (by decide +kernel) ?_
      refine k_goto (tgt := 131) X dX10_sortOf_127 (by decide) ?_
      exact k_iret X hrt hlk dX10_sortOf_131 ⟨rfl, h⟩
  rw [if_neg q17] at h
  by_cases q18 : a1 = 114
  · rw [if_pos q18] at h
    refine k_swin (tgt := 119) X dX10_sortOf_1 hr1 q18 (by decide) (by decide) rfl (by decide) ?_
    refine k_iload_n X dX10_sortOf_119 0 rfl ?_
    refine k_bipush X dX10_sortOf_120 (by decide +kernel) ?_
    refine k_icmp_ne (tgt := 130) X dX10_sortOf_122 (by decide) ⟨h.1, ⟨by decide, by decide⟩, h.2⟩ (fun h => ?_) (fun h => ?_)
    · refine k_iconst X dX10_sortOf_130 ?_
      exact k_iret X hrt hlk dX10_sortOf_131 ⟨rfl, h⟩
    · refine k_bipush X dX10_sortOf_125 (by decide +kernel) ?_
      refine k_goto (tgt := 131) X dX10_sortOf_127 (by decide) ?_
      exact k_iret X hrt hlk dX10_sortOf_131 ⟨rfl, h⟩
  rw [if_neg q18] at h
  by_cases q19 : a1 = 115
  · rw [if_pos q19] at h
    refine k_swin (tgt := 114) X dX10_sortOf_1 hr1 q19 (by decide) (by decide) rfl (by decide) ?_
    refine k_iconst X dX10_sortOf_114 ?_
    exact k_iret X hrt hlk dX10_sortOf_115 ⟨rfl, h⟩
  rw [if_neg q19] at h
  by_cases q20 : a1 = 116
  · rw [if_pos q20] at h
    refine k_swin (tgt := 119) X dX10_sortOf_1 hr1 q20 (by decide) (by decide) rfl (by decide) ?_
    refine k_iload_n X dX10_sortOf_119 0 rfl ?_
    refine k_bipush X dX10_sortOf_120 (by decide +kernel) ?_
    refine k_icmp_ne (tgt := 130) X dX10_sortOf_122 (by decide) ⟨h.1, ⟨by decide, by decide⟩, h.2⟩ (fun h => ?_) (fun h => ?_)
    · refine k_iconst X dX10_sortOf_130 ?_
      exact k_iret X hrt hlk dX10_sortOf_131 ⟨rfl, h⟩
    · refine k_bipush X dX10_sortOf_125 (by decide +kernel) ?_
      refine k_goto (tgt := 131) X dX10_sortOf_127 (by decide) ?_
      exact k_iret X hrt hlk dX10_sortOf_131 ⟨rfl, h⟩
  rw [if_neg q20] at h
  by_cases q21 : a1 = 117
  · rw [if_pos q21] at h
    refine k_swin (tgt := 119) X dX10_sortOf_1 hr1 q21 (by decide) (by decide) rfl (by decide) ?_
    refine k_iload_n X dX10_sortOf_119 0 rfl ?_
    refine k_bipush X dX10_sortOf_120 (by decide +kernel) ?_
    refine k_icmp_ne (tgt := 130) X dX10_sortOf_122 (by decide) ⟨h.1, ⟨by decide, by decide⟩, h.2⟩ (fun h => ?_) (fun h => ?_)
    · refine k_iconst X dX10_sortOf_130 ?_
      exact k_iret X hrt hlk dX10_sortOf_131 ⟨rfl, h⟩
    · refine k_bipush X dX10_sortOf_125 (by decide +kernel) ?_
      refine k_goto (tgt := 131) X dX10_sortOf_127 (by decide) ?_
      exact k_iret X hrt hlk dX10_sortOf_131 ⟨rfl, h⟩
  rw [if_neg q21] at h
  by_cases q22 : a1 = 118
  · rw [if_pos q22] at h
    refine k_swin (tgt := 119) X dX10_sortOf_1 hr1 q22 (by decide) (by decide) rfl (by decide) ?_
    refine k_iload_n X dX10_sortOf_119 0 rfl ?_
    refine k_bipush X dX10_sortOf_120 (by decide +kernel) ?_
    refine k_icmp_ne (tgt := 130) X dX10_sortOf_122 (by decide) ⟨h.1, ⟨by decide, by decide⟩, h.2⟩ (fun h => ?_) (fun h => ?_)
    · refine k_iconst X dX10_sortOf_130 ?_
      exact k_iret X hrt hlk dX10_sortOf_131 ⟨rfl, h⟩
    · refine k_bipush X dX10_sortOf_125 (by decide +kernel) ?_
      refine k_goto (tgt := 131) X dX10_sortOf_127 (by decide) ?_
      exact k_iret X hrt hlk dX10_sortOf_131 ⟨rfl, h⟩
  rw [if_neg q22] at h
  by_cases q23 : a1 = 119
  · rw [if_pos q23] at h
    refine k_swin (tgt := 112) X dX10_sortOf_1 hr1 q23 (by decide) (by decide) rfl (by decide) ?_
    refine k_iconst X dX10_sortOf_112 ?_
    exact k_iret X hrt hlk dX10_sortOf_113 ⟨rfl, h⟩
  rw [if_neg q23] at h
  refine k_swout (tgt := 119) X dX10_sortOf_1 hr1 (by omega) (by decide) ?_
  refine k_iload_n X dX10_sortOf_119 0 rfl ?_
  refine k_bipush X dX10_sortOf_120 (by decide +kernel) ?_
  refine k_icmp_ne (tgt := 130) X dX10_sortOf_122 (by decide) ⟨h.1, ⟨by decide, by decide⟩, h.2⟩ (fun h => ?_) (fun h => ?_)
  · refine k_iconst X dX10_sortOf_130 ?_
    exact k_iret X hrt hlk dX10_sortOf_131 ⟨rfl, h⟩
  · refine k_bipush X dX10_sortOf_125 (by decide +kernel) ?_
    refine k_goto (tgt := 131) X dX10_sortOf_127 (by decide) ?_
    exact k_iret X hrt hlk dX10_sortOf_131 ⟨rfl, h⟩
