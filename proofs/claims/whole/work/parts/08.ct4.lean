set_option maxHeartbeats 4000000 in
set_option maxRecDepth 100000 in
theorem ct_X1_children {l : Launch} {D : va_G} {cA : Nat → ClassId} {ad sa : Nat → Nat} (hj : kInj NC ad) (t : Nat) (ht : kdC t = (0, 1, 13)) (a1 : Int) (z : Hp) (Kp : Int → Prop) (h : cal_X1_children t a1 z Kp) : kMet l yX1_children cX1_children 2 (some .int) 2 NC kdC D cA ad sa [.ref (ad t), kI a1] z (kQi NC kdC D cA ad (fun v z1 => z1 = z ∧ Kp v)) := by
  unfold cal_X1_children at h
  refine k_met (cc := cX1_children) (own := RX1) (nL := 2) rfl rfl (Nat.le_of_ble_eq_true rfl) hj kltC (fun p e s m below meth c X hrt hlk => ?_)
  refine k_sub (lv' := [(0, .ref (ad t)), (1, kI a1)]) [0, 1] rfl ?_
  refine k_aload_n X dX1_children_0 0 rfl ?_
  refine k_getR (t := t + 6) X fk_X1_27 ht (by decide) rfl dX1_children_1 ?_
  refine k_iload_n X dX1_children_4 1 rfl ?_
  refine k_afterP (st := []) (fun H locs ls hP hS hl => k_runS (As := [.ref (ad (t + 6)), kI a1]) X lk_X1_124 yo_X1_holders rfl (kR_ok (by decide) (by decide)) (ct_X1_holders (kCx_j X) (t + 6) (kc_1_7 ht) _ _ _ h) (Nat.le_of_ble_eq_true rfl) dX1_children_5 hP hS hl) (fun v1 h => ?_)
  exact k_iret X hrt hlk dX1_children_8 ⟨rfl, h⟩
set_option maxHeartbeats 4000000 in
set_option maxRecDepth 100000 in
theorem ct_X1_generationOver {l : Launch} {D : va_G} {cA : Nat → ClassId} {ad sa : Nat → Nat} (hj : kInj NC ad) (t : Nat) (ht : kdC t = (0, 1, 13)) (a1 : Int) (z : Hp) (Kp : Int → Prop) (h : cal_X1_generationOver t a1 z Kp) : kMet l yX1_generationOver cX1_generationOver 4 (some .int) 1 NC kdC D cA ad sa [.ref (ad t), kI a1] z (kQi NC kdC D cA ad (fun v z1 => z1 = z ∧ Kp v)) := by
  unfold cal_X1_generationOver at h
  refine k_met (cc := cX1_generationOver) (own := RX1) (nL := 4) rfl rfl (Nat.le_of_ble_eq_true rfl) hj kltC (fun p e s m below meth c X hrt hlk => ?_)
  refine k_sub (lv' := [(0, .ref (ad t)), (1, kI a1)]) [0, 1] rfl ?_
  refine k_iconst X dX1_generationOver_0 ?_
  refine k_istore_n X dX1_generationOver_1 h (fun v1 => [(2, kI v1), (0, .ref (ad t)), (1, kI a1)]) (by decide) (fun _ => rfl) (fun v1 h => ?_)
  refine k_iconst X dX1_generationOver_2 ?_
  refine k_istore_n X dX1_generationOver_3 h (fun v2 => [(3, kI v2), (2, kI v1), (0, .ref (ad t)), (1, kI a1)]) (by decide) (fun _ => rfl) (fun v2 h => ?_)
  refine k_sub (lv' := [(0, .ref (ad t)), (1, kI a1), (2, kI v1), (3, kI v2)]) [2, 3, 1, 0] rfl ?_
  refine h (fun v4 v5 => kAt p l e (kR 1) s m ([.ref (ad t), kI a1] : List Value).toArray below meth c (MQ below (kQi NC kdC D cA ad (fun v z1 => z1 = z ∧ Kp v)) ([.ref (ad t), kI a1] : List Value).toArray s 0 0 (kA NC ad)) 4 NC kdC D cA ad 4 [(0, .ref (ad t)), (1, kI a1), (2, kI v4), (3, kI v5)] [] z) (fun v4 v5 h => ?_)
  refine k_iload_n X dX1_generationOver_4 3 rfl ?_
  refine k_bipush X dX1_generationOver_5 (by decide +kernel) ?_
  refine k_icmp_ge (tgt := 37) X dX1_generationOver_7 (by decide) ⟨h.1, ⟨by decide, by decide⟩, h.2⟩ (fun h => ?_) (fun h => ?_)
  · refine k_iload_n X dX1_generationOver_37 2 rfl ?_
    exact k_iret X hrt hlk dX1_generationOver_38 ⟨rfl, h⟩
  · refine k_iload_n X dX1_generationOver_10 1 rfl ?_
    refine k_iload_n X dX1_generationOver_11 3 rfl ?_
    refine k_afterP (st := []) (fun H locs ls hP hS hl => k_runS (As := [kI a1, kI v5]) X lk_X1_42 yo_X1_has rfl (kR_ok (by decide) (by decide)) (ct_X1_has (kCx_j X) _ _ _ _ h) (Nat.le_of_ble_eq_true rfl) dX1_generationOver_12 hP hS hl) (fun v6 h => ?_)
    refine jn_use (fun J8 => ∀ (v7 : Int), J8 v7 → kAt p l e (kR 1) s m ([.ref (ad t), kI a1] : List Value).toArray below meth c (MQ below (kQi NC kdC D cA ad (fun v z1 => z1 = z ∧ Kp v)) ([.ref (ad t), kI a1] : List Value).toArray s 0 0 (kA NC ad)) 4 NC kdC D cA ad 31 [(0, .ref (ad t)), (1, kI a1), (2, kI v7), (3, kI v5)] [] z) h ?_ (fun J8 hJ8 h => ?_)
    · intro v7 h
      refine k_iinc X dX1_generationOver_31 3 rfl h (fun v9 => [(3, kI v9), (0, .ref (ad t)), (1, kI a1), (2, kI v7)]) (by decide) (fun _ => rfl) (fun v9 h => ?_)
      refine k_goto (tgt := 4) X dX1_generationOver_34 (by decide) ?_
      exact k_sub [1, 2, 3, 0] rfl h
    · refine k_if_eq (tgt := 31) X dX1_generationOver_15 (by decide) h (fun h => ?_) (fun h => ?_)
      · exact k_sub [0, 1, 2, 3] rfl (hJ8 _ h)
      · refine k_iload_n X dX1_generationOver_18 2 rfl ?_
        refine k_aload_n X dX1_generationOver_19 0 rfl ?_
        refine k_getR (t := t + 10) X fk_X1_39 ht (by decide) rfl dX1_generationOver_20 ?_
        refine k_iload_n X dX1_generationOver_23 3 rfl ?_
        refine k_iald X (kc_1_11 ht) (Nat.le_of_ble_eq_true rfl) dX1_generationOver_24 h (fun h => ?_)
        refine k_iconst X dX1_generationOver_25 ?_
        refine k_iadd X dX1_generationOver_26 ?_
        refine k_mmax X mw446 mw447 mw11 mw448 (kR_one (by decide)) (Nat.le_of_ble_eq_true rfl) dX1_generationOver_27 h (fun h => ?_)
        refine k_istore_n X dX1_generationOver_30 h (fun v10 => [(2, kI v10), (0, .ref (ad t)), (1, kI a1), (3, kI v5)]) (by decide) (fun _ => rfl) (fun v10 h => ?_)
        exact k_sub [1, 2, 0, 3] rfl (hJ8 _ h)
set_option maxHeartbeats 4000000 in
set_option maxRecDepth 100000 in
theorem ct_X1_leastRing {l : Launch} {D : va_G} {cA : Nat → ClassId} {ad sa : Nat → Nat} (hj : kInj NC ad) (t : Nat) (ht : kdC t = (0, 1, 13)) (z : Hp) (Kp : Int → Prop) (h : cal_X1_leastRing t z Kp) : kMet l yX1_leastRing cX1_leastRing 2 (some .int) 1 NC kdC D cA ad sa [.ref (ad t)] z (kQi NC kdC D cA ad (fun v z1 => z1 = z ∧ Kp v)) := by
  unfold cal_X1_leastRing at h
  refine k_met (cc := cX1_leastRing) (own := RX1) (nL := 2) rfl rfl (Nat.le_of_ble_eq_true rfl) hj kltC (fun p e s m below meth c X hrt hlk => ?_)
  refine k_sub (lv' := [(0, .ref (ad t))]) [0] rfl ?_
  refine k_iconst X dX1_leastRing_0 ?_
  refine k_istore_n X dX1_leastRing_1 h (fun v1 => [(1, kI v1), (0, .ref (ad t))]) (by decide) (fun _ => rfl) (fun v1 h => ?_)
  refine k_sub (lv' := [(0, .ref (ad t)), (1, kI v1)]) [1, 0] rfl ?_
  refine h (fun v3 => kAt p l e (kR 1) s m ([.ref (ad t)] : List Value).toArray below meth c (MQ below (kQi NC kdC D cA ad (fun v z1 => z1 = z ∧ Kp v)) ([.ref (ad t)] : List Value).toArray s 0 0 (kA NC ad)) 2 NC kdC D cA ad 2 [(0, .ref (ad t)), (1, kI v3)] [] z) (fun v3 h => ?_)
  refine k_iload_n X dX1_leastRing_2 1 rfl ?_
  refine k_bipush X dX1_leastRing_3 (by decide +kernel) ?_
  refine k_icmp_ge (tgt := 29) X dX1_leastRing_5 (by decide) ⟨h.1, ⟨by decide, by decide⟩, h.2⟩ (fun h => ?_) (fun h => ?_)
  · refine k_bipush X dX1_leastRing_29 (by decide +kernel) ?_
    exact k_iret X hrt hlk dX1_leastRing_31 ⟨rfl, h⟩
  · refine k_aload_n X dX1_leastRing_8 0 rfl ?_
    refine k_getR (t := t + 7) X fk_X1_30 ht (by decide) rfl dX1_leastRing_9 ?_
    refine k_iload_n X dX1_leastRing_12 1 rfl ?_
    refine k_iald X (kc_1_8 ht) (Nat.le_of_ble_eq_true rfl) dX1_leastRing_13 h (fun h => ?_)
    refine k_iload_n X dX1_leastRing_14 1 rfl ?_
    refine k_afterP (st := []) (fun H locs ls hP hS hl => k_runS (As := [kI (z (t + 7) v3.toNat), kI v3]) X lk_X1_42 yo_X1_has rfl (kR_ok (by decide) (by decide)) (ct_X1_has (kCx_j X) _ _ _ _ h) (Nat.le_of_ble_eq_true rfl) dX1_leastRing_15 hP hS hl) (fun v4 h => ?_)
    refine k_if_eq (tgt := 23) X dX1_leastRing_18 (by decide) h (fun h => ?_) (fun h => ?_)
    · refine k_iinc X dX1_leastRing_23 1 rfl h (fun v5 => [(1, kI v5), (0, .ref (ad t))]) (by decide) (fun _ => rfl) (fun v5 h => ?_)
      refine k_goto (tgt := 2) X dX1_leastRing_26 (by decide) ?_
      exact k_sub [1, 0] rfl h
    · refine k_iload_n X dX1_leastRing_21 1 rfl ?_
      exact k_iret X hrt hlk dX1_leastRing_22 ⟨rfl, h⟩
set_option maxHeartbeats 4000000 in
set_option maxRecDepth 100000 in
theorem ct_X1_climb {l : Launch} {D : va_G} {cA : Nat → ClassId} {ad sa : Nat → Nat} (hj : kInj NC ad) (t : Nat) (ht : kdC t = (0, 1, 13)) (z : Hp) (Kp : Hp → Prop) (h : cal_X1_climb t z Kp) : kMet l yX1_climb cX1_climb 5 none 2 NC kdC D cA ad sa [.ref (ad t)] z (kQv NC kdC D cA ad Kp) := by
  unfold cal_X1_climb at h
  refine k_met (cc := cX1_climb) (own := RX1) (nL := 5) rfl rfl (Nat.le_of_ble_eq_true rfl) hj kltC (fun p e s m below meth c X hrt hlk => ?_)
  refine k_sub (lv' := [(0, .ref (ad t))]) [0] rfl ?_
  refine k_aload_n X dX1_climb_0 0 rfl ?_
  refine k_getR (t := t + 6) X fk_X1_27 ht (by decide) rfl dX1_climb_1 ?_
  refine k_iconst X dX1_climb_4 ?_
  refine k_aload_n X dX1_climb_5 0 rfl ?_
  refine k_getR (t := t + 7) X fk_X1_30 ht (by decide) rfl dX1_climb_6 ?_
  refine k_iconst X dX1_climb_9 ?_
  refine k_bipush X dX1_climb_10 (by decide +kernel) ?_
  refine k_acpi (k := 30) X mw467 mw469 mw468 mw17 (kc_1_7 ht) (kc_1_8 ht) (by decide) (by decide) (kR_one (by decide)) (Nat.le_of_ble_eq_true rfl) dX1_climb_12 (k_nameH h (fun z1 h => ?_))
  refine k_iconst X dX1_climb_15 ?_
  refine k_istore_n X dX1_climb_16 h (fun v2 => [(1, kI v2), (0, .ref (ad t))]) (by decide) (fun _ => rfl) (fun v2 h => ?_)
  refine k_sub (lv' := [(0, .ref (ad t)), (1, kI v2)]) [1, 0] rfl ?_
  refine h (fun v4 z5 => kAt p l e (kR 2) s m ([.ref (ad t)] : List Value).toArray below meth c (MQ below (kQv NC kdC D cA ad Kp) ([.ref (ad t)] : List Value).toArray s 0 0 (kA NC ad)) 5 NC kdC D cA ad 17 [(0, .ref (ad t)), (1, kI v4)] [] z5) (fun v4 z5 h => ?_)
  refine k_iload_n X dX1_climb_17 1 rfl ?_
  refine k_bipush X dX1_climb_18 (by decide +kernel) ?_
  refine k_icmp_ge (tgt := 71) X dX1_climb_20 (by decide) ⟨h.1, ⟨by decide, by decide⟩, h.2⟩ (fun h => ?_) (fun h => ?_)
  · refine k_aload_n X dX1_climb_71 0 rfl ?_
    refine k_aload_n X dX1_climb_72 0 rfl ?_
    refine k_afterP (st := [.ref (ad t)]) (fun H locs ls hP hS hl => k_runV (As := []) X lk_X1_107 rfl yo_X1_leastRing rfl (kR_ok (by decide) (by decide)) (ct_X1_leastRing (kCx_j X) t ht _ _ h) ht rfl (Nat.le_of_ble_eq_true rfl) dX1_climb_73 hP hS hl) (fun v6 h => ?_)
    refine jn_use (fun J7 => ∀ (z8 : Hp), J7 z8 → kAt p l e (kR 2) s m ([.ref (ad t)] : List Value).toArray below meth c (MQ below (kQv NC kdC D cA ad Kp) ([.ref (ad t)] : List Value).toArray s 0 0 (kA NC ad)) 5 NC kdC D cA ad 87 [(0, .ref (ad t))] [] z8) h ?_ (fun J7 hJ7 h => ?_)
    · intro z8 h
      refine k_aload_n X dX1_climb_87 0 rfl ?_
      refine k_getI X fk_X1_111 ht rfl dX1_climb_88 ?_
      refine jn_use (fun J10 => ∀ (v9 : Int), J10 v9 → kAt p l e (kR 2) s m ([.ref (ad t)] : List Value).toArray below meth c (MQ below (kQv NC kdC D cA ad Kp) ([.ref (ad t)] : List Value).toArray s 0 0 (kA NC ad)) 5 NC kdC D cA ad 100 [(0, .ref (ad t)), (1, kI v9)] [] z8) h ?_ (fun J10 hJ10 h => ?_)
      · intro v9 h
        refine k_iconst X dX1_climb_100 ?_
        refine k_istore_n X dX1_climb_101 h (fun v11 => [(2, kI v11), (0, .ref (ad t)), (1, kI v9)]) (by decide) (fun _ => rfl) (fun v11 h => ?_)
        refine k_sub (lv' := [(0, .ref (ad t)), (1, kI v9), (2, kI v11)]) [1, 2, 0] rfl ?_
        refine h (fun v13 v14 z15 => kAt p l e (kR 2) s m ([.ref (ad t)] : List Value).toArray below meth c (MQ below (kQv NC kdC D cA ad Kp) ([.ref (ad t)] : List Value).toArray s 0 0 (kA NC ad)) 5 NC kdC D cA ad 102 [(0, .ref (ad t)), (1, kI v13), (2, kI v14)] [] z15) (fun v13 v14 z15 h => ?_)
        refine k_iload_n X dX1_climb_102 2 rfl ?_
        refine k_bipush X dX1_climb_103 (by decide +kernel) ?_
        refine k_icmp_ge (tgt := 179) X dX1_climb_105 (by decide) ⟨h.1, ⟨by decide, by decide⟩, h.2⟩ (fun h => ?_) (fun h => ?_)
        · exact k_vret X hrt hlk dX1_climb_179 h
        · refine k_iload_n X dX1_climb_108 1 rfl ?_
          refine k_if_eq (tgt := 179) X dX1_climb_109 (by decide) h (fun h => ?_) (fun h => ?_)
          · exact k_vret X hrt hlk dX1_climb_179 h
          · refine k_iconst X dX1_climb_112 ?_
            refine k_istore_n X dX1_climb_113 h (fun v16 => [(1, kI v16), (0, .ref (ad t)), (2, kI v14)]) (by decide) (fun _ => rfl) (fun v16 h => ?_)
            refine k_iconst X dX1_climb_114 ?_
            refine k_istore_n X dX1_climb_115 h (fun v17 => [(3, kI v17), (1, kI v16), (0, .ref (ad t)), (2, kI v14)]) (by decide) (fun _ => rfl) (fun v17 h => ?_)
            refine k_sub (lv' := [(0, .ref (ad t)), (1, kI v16), (2, kI v14), (3, kI v17)]) [2, 1, 3, 0] rfl ?_
            refine h (fun v19 v20 z21 => kAt p l e (kR 2) s m ([.ref (ad t)] : List Value).toArray below meth c (MQ below (kQv NC kdC D cA ad Kp) ([.ref (ad t)] : List Value).toArray s 0 0 (kA NC ad)) 5 NC kdC D cA ad 116 [(0, .ref (ad t)), (1, kI v19), (2, kI v14), (3, kI v20)] [] z21) (fun v19 v20 z21 h => ?_)
            refine k_iload_n X dX1_climb_116 3 rfl ?_
            refine k_bipush X dX1_climb_117 (by decide +kernel) ?_
            refine k_icmp_ge (tgt := 173) X dX1_climb_119 (by decide) ⟨h.1, ⟨by decide, by decide⟩, h.2⟩ (fun h => ?_) (fun h => ?_)
            · refine k_iinc X dX1_climb_173 2 rfl h (fun v22 => [(2, kI v22), (0, .ref (ad t)), (1, kI v19), (3, kI v20)]) (by decide) (fun _ => rfl) (fun v22 h => ?_)
              refine k_goto (tgt := 102) X dX1_climb_176 (by decide) ?_
              exact k_sub [1, 2, 0] rfl h
            · refine k_aload_n X dX1_climb_122 0 rfl ?_
              refine k_getR (t := t + 10) X fk_X1_39 ht (by decide) rfl dX1_climb_123 ?_
              refine k_iload_n X dX1_climb_126 3 rfl ?_
              refine k_iald X (kc_1_11 ht) (Nat.le_of_ble_eq_true rfl) dX1_climb_127 h (fun h => ?_)
              refine k_istore X dX1_climb_128 h (fun v23 => [(4, kI v23), (0, .ref (ad t)), (1, kI v19), (2, kI v14), (3, kI v20)]) (by decide) (fun _ => rfl) (fun v23 h => ?_)
              refine k_aload_n X dX1_climb_130 1 rfl ?_
              refine k_getR (t := t + 10) X fk_X1_39 ht (by decide) rfl dX1_climb_131 ?_
              refine k_iload_n X dX1_climb_134 4 rfl ?_
              refine k_aload_n X dX1_climb_135 1 rfl ?_
              refine k_aload_n X dX1_climb_136 1 rfl ?_
              refine k_getR (t := t + 6) X fk_X1_27 ht (by decide) rfl dX1_climb_137 ?_
              refine k_iload_n X dX1_climb_140 4 rfl ?_
              refine k_iald X (kc_1_7 ht) (Nat.le_of_ble_eq_true rfl) dX1_climb_141 h (fun h => ?_)
              refine k_afterP (st := [kI v20, .ref (ad (t + 10))]) (fun H locs ls hP hS hl => k_runV (As := [kI (z21 (t + 6) v20.toNat)]) X lk_X1_115 rfl yo_X1_generationOver rfl (kR_ok (by decide) (by decide)) (ct_X1_generationOver (kCx_j X) t ht _ _ _ h) ht rfl (Nat.le_of_ble_eq_true rfl) dX1_climb_142 hP hS hl) (fun v24 h => ?_)
              refine k_iast X (kc_1_11 ht) (Nat.le_of_ble_eq_true rfl) dX1_climb_145 h (fun h => k_nameH h (fun z25 h => ?_))
              refine k_iload_n X dX1_climb_146 2 rfl ?_
              refine jn_use (fun J27 => ∀ (v26 : Int), J27 v26 → kAt p l e (kR 2) s m ([.ref (ad t)] : List Value).toArray below meth c (MQ below (kQv NC kdC D cA ad Kp) ([.ref (ad t)] : List Value).toArray s 0 0 (kA NC ad)) 5 NC kdC D cA ad 167 [(0, .ref (ad t)), (1, kI v26), (2, kI v14), (3, kI v20)] [] z25) h ?_ (fun J27 hJ27 h => ?_)
              · intro v26 h
                refine k_iinc X dX1_climb_167 3 rfl h (fun v28 => [(3, kI v28), (0, .ref (ad t)), (1, kI v26), (2, kI v14)]) (by decide) (fun _ => rfl) (fun v28 h => ?_)
                refine k_goto (tgt := 116) X dX1_climb_170 (by decide) ?_
                exact k_sub [1, 2, 3, 0] rfl h
              · refine jn_use (fun J29 => J29 → kAt p l e (kR 2) s m ([.ref (ad t)] : List Value).toArray below meth c (MQ below (kQv NC kdC D cA ad Kp) ([.ref (ad t)] : List Value).toArray s 0 0 (kA NC ad)) 5 NC kdC D cA ad 161 [(0, .ref (ad t)), (2, kI v14), (3, kI v20)] [] z25) h ?_ (fun J29 hJ29 h => ?_)
                · intro h
                  refine k_iconst X dX1_climb_161 ?_
                  refine k_goto (tgt := 166) X dX1_climb_162 (by decide) ?_
                  refine k_istore_n X dX1_climb_166 h (fun v30 => [(1, kI v30), (0, .ref (ad t)), (2, kI v14), (3, kI v20)]) (by decide) (fun _ => rfl) (fun v30 h => ?_)
                  exact k_sub [1, 0, 2, 3] rfl (hJ27 _ h)
                · refine k_if_ne (tgt := 161) X dX1_climb_147 (by decide) h (fun h => ?_) (fun h => ?_)
                  · exact k_sub [1, 3, 4] rfl (hJ29 h)
                  · refine k_aload_n X dX1_climb_150 1 rfl ?_
                    refine k_getR (t := t + 10) X fk_X1_39 ht (by decide) rfl dX1_climb_151 ?_
                    refine k_iload_n X dX1_climb_154 4 rfl ?_
                    refine k_iald X (kc_1_11 ht) (Nat.le_of_ble_eq_true rfl) dX1_climb_155 h (fun h => ?_)
                    refine k_iload X dX1_climb_156 0 rfl ?_
                    refine k_icmp_eq (tgt := 165) X dX1_climb_158 (by decide) h (fun h => ?_) (fun h => ?_)
                    · refine k_iconst X dX1_climb_165 ?_
                      refine k_istore_n X dX1_climb_166 h (fun v31 => [(1, kI v31), (4, kI v23), (0, .ref (ad t)), (2, kI v14), (3, kI v20)]) (by decide) (fun _ => rfl) (fun v31 h => ?_)
                      exact k_sub [2, 0, 3, 4] rfl (hJ27 _ h)
                    · exact k_sub [1, 3, 4] rfl (hJ29 h)
      · refine k_if_ne (tgt := 98) X dX1_climb_91 (by decide) h (fun h => ?_) (fun h => ?_)
        · refine k_iconst X dX1_climb_98 ?_
          refine k_istore_n X dX1_climb_99 h (fun v32 => [(1, kI v32), (0, .ref (ad t))]) (by decide) (fun _ => rfl) (fun v32 h => ?_)
          exact k_sub [1, 0] rfl (hJ10 _ h)
        · refine k_iconst X dX1_climb_94 ?_
          refine k_goto (tgt := 99) X dX1_climb_95 (by decide) ?_
          refine k_istore_n X dX1_climb_99 h (fun v33 => [(1, kI v33), (0, .ref (ad t))]) (by decide) (fun _ => rfl) (fun v33 h => ?_)
          exact k_sub [1, 0] rfl (hJ10 _ h)
    · refine k_if_lt (tgt := 83) X dX1_climb_76 (by decide) h (fun h => ?_) (fun h => ?_)
      · refine k_iconst X dX1_climb_83 ?_
        refine k_putZ X fp_X1_111 ht rfl (Or.inl rfl) dX1_climb_84 (k_nameH h (fun z34 h => ?_))
        exact k_sub [0] rfl (hJ7 _ h)
      · refine k_iconst X dX1_climb_79 ?_
        refine k_goto (tgt := 84) X dX1_climb_80 (by decide) ?_
        refine k_putZ X fp_X1_111 ht rfl (Or.inr rfl) dX1_climb_84 (k_nameH h (fun z35 h => ?_))
        exact k_sub [0] rfl (hJ7 _ h)
  · refine k_iconst X dX1_climb_23 ?_
    refine k_istore_n X dX1_climb_24 h (fun v36 => [(2, kI v36), (0, .ref (ad t)), (1, kI v4)]) (by decide) (fun _ => rfl) (fun v36 h => ?_)
    refine k_sub (lv' := [(0, .ref (ad t)), (1, kI v4), (2, kI v36)]) [1, 2, 0] rfl ?_
    refine h (fun v38 z39 => kAt p l e (kR 2) s m ([.ref (ad t)] : List Value).toArray below meth c (MQ below (kQv NC kdC D cA ad Kp) ([.ref (ad t)] : List Value).toArray s 0 0 (kA NC ad)) 5 NC kdC D cA ad 25 [(0, .ref (ad t)), (1, kI v4), (2, kI v38)] [] z39) (fun v38 z39 h => ?_)
    refine k_iload_n X dX1_climb_25 2 rfl ?_
    refine k_bipush X dX1_climb_26 (by decide +kernel) ?_
    refine k_icmp_ge (tgt := 65) X dX1_climb_28 (by decide) ⟨h.1, ⟨by decide, by decide⟩, h.2⟩ (fun h => ?_) (fun h => ?_)
    · refine k_iinc X dX1_climb_65 1 rfl h (fun v40 => [(1, kI v40), (0, .ref (ad t)), (2, kI v38)]) (by decide) (fun _ => rfl) (fun v40 h => ?_)
      refine k_goto (tgt := 17) X dX1_climb_68 (by decide) ?_
      exact k_sub [1, 0] rfl h
    · refine k_aload_n X dX1_climb_31 0 rfl ?_
      refine k_getR (t := t + 7) X fk_X1_30 ht (by decide) rfl dX1_climb_32 ?_
      refine k_iload_n X dX1_climb_35 2 rfl ?_
      refine k_iald X (kc_1_8 ht) (Nat.le_of_ble_eq_true rfl) dX1_climb_36 h (fun h => ?_)
      refine k_iload_n X dX1_climb_37 1 rfl ?_
      refine k_afterP (st := []) (fun H locs ls hP hS hl => k_runS (As := [kI (z39 (t + 7) v38.toNat), kI v4]) X lk_X1_42 yo_X1_has rfl (kR_ok (by decide) (by decide)) (ct_X1_has (kCx_j X) _ _ _ _ h) (Nat.le_of_ble_eq_true rfl) dX1_climb_38 hP hS hl) (fun v41 h => ?_)
      refine jn_use (fun J42 => ∀ (z43 : Hp), J42 z43 → kAt p l e (kR 2) s m ([.ref (ad t)] : List Value).toArray below meth c (MQ below (kQv NC kdC D cA ad Kp) ([.ref (ad t)] : List Value).toArray s 0 0 (kA NC ad)) 5 NC kdC D cA ad 59 [(0, .ref (ad t)), (1, kI v4), (2, kI v38)] [] z43) h ?_ (fun J42 hJ42 h => ?_)
      · intro z43 h
        refine k_iinc X dX1_climb_59 2 rfl h (fun v44 => [(2, kI v44), (0, .ref (ad t)), (1, kI v4)]) (by decide) (fun _ => rfl) (fun v44 h => ?_)
        refine k_goto (tgt := 25) X dX1_climb_62 (by decide) ?_
        exact k_sub [1, 2, 0] rfl h
      · refine k_if_eq (tgt := 59) X dX1_climb_41 (by decide) h (fun h => ?_) (fun h => ?_)
        · exact k_sub [0, 1, 2] rfl (hJ42 _ h)
        · refine k_aload_n X dX1_climb_44 0 rfl ?_
          refine k_getR (t := t + 7) X fk_X1_30 ht (by decide) rfl dX1_climb_45 ?_
          refine k_iload_n X dX1_climb_48 2 rfl ?_
          refine k_dup2 X dX1_climb_49 rfl rfl ?_
          refine k_iald X (kc_1_8 ht) (Nat.le_of_ble_eq_true rfl) dX1_climb_50 h (fun h => ?_)
          refine k_aload_n X dX1_climb_51 0 rfl ?_
          refine k_getR (t := t + 7) X fk_X1_30 ht (by decide) rfl dX1_climb_52 ?_
          refine k_iload_n X dX1_climb_55 1 rfl ?_
          refine k_iald X (kc_1_8 ht) (Nat.le_of_ble_eq_true rfl) dX1_climb_56 h (fun h => ?_)
          refine k_ior X dX1_climb_57 ?_
          refine k_iast X (kc_1_8 ht) (Nat.le_of_ble_eq_true rfl) dX1_climb_58 h (fun h => k_nameH h (fun z45 h => ?_))
          exact k_sub [0, 1, 2] rfl (hJ42 _ h)
set_option maxHeartbeats 4000000 in
set_option maxRecDepth 100000 in
theorem ct_X1_hear {l : Launch} {D : va_G} {cA : Nat → ClassId} {ad sa : Nat → Nat} (hj : kInj NC ad) (t : Nat) (ht : kdC t = (0, 1, 13)) (r1 : Nat) (hr1 : kdC r1 = (0, 0, 11)) (a2 : Int) (z : Hp) (Kp : Hp → Prop) (h : cal_X1_hear t r1 a2 z Kp) : kMet l yX1_hear cX1_hear 6 none 0 NC kdC D cA ad sa [.ref (ad t), .ref (ad r1), kI a2] z (kQv NC kdC D cA ad Kp) := by
  unfold cal_X1_hear at h
  refine k_met (cc := cX1_hear) (own := RX1) (nL := 6) rfl rfl (Nat.le_of_ble_eq_true rfl) hj kltC (fun p e s m below meth c X hrt hlk => ?_)
  refine k_sub (lv' := [(0, .ref (ad t)), (1, .ref (ad r1)), (2, kI a2)]) [0, 1, 2] rfl ?_
  refine k_aload_n X dX1_hear_0 1 rfl ?_
  refine k_getR (t := r1 + 34) X fk_X1_79 hr1 (by decide) rfl dX1_hear_1 ?_
  refine k_iload_n X dX1_hear_4 2 rfl ?_
  refine k_iald X (kc_0_5 hr1) (Nat.le_of_ble_eq_true rfl) dX1_hear_5 h (fun h => ?_)
  refine k_istore_n X dX1_hear_6 h (fun v1 => [(3, kI v1), (0, .ref (ad t)), (1, .ref (ad r1)), (2, kI a2)]) (by decide) (fun _ => rfl) (fun v1 h => ?_)
  refine k_iload_n X dX1_hear_7 0 rfl ?_
  refine k_iconst X dX1_hear_8 ?_
  refine jn_use (fun J2 => J2 → kAt p l e (kR 0) s m ([.ref (ad t), .ref (ad r1), kI a2] : List Value).toArray below meth c (MQ below (kQv NC kdC D cA ad Kp) ([.ref (ad t), .ref (ad r1), kI a2] : List Value).toArray s 0 0 (kA NC ad)) 6 NC kdC D cA ad 23 [(0, .ref (ad t)), (1, .ref (ad r1)), (2, kI a2), (3, kI v1)] [] z) h ?_ (fun J2 hJ2 h => ?_)
  · intro h
    refine k_aload_n X dX1_hear_23 0 rfl ?_
    refine k_getR (t := t + 1) X fk_X1_9 ht (by decide) rfl dX1_hear_24 ?_
    refine k_aload_n X dX1_hear_27 1 rfl ?_
    refine k_getR (t := r1 + 35) X fk_X1_82 hr1 (by decide) rfl dX1_hear_28 ?_
    refine k_iload_n X dX1_hear_31 2 rfl ?_
    refine k_iald X (kc_0_6 hr1) (Nat.le_of_ble_eq_true rfl) dX1_hear_32 h (fun h => ?_)
    refine k_iald X (kc_1_2 ht) (Nat.le_of_ble_eq_true rfl) dX1_hear_33 h (fun h => ?_)
    refine k_istore X dX1_hear_34 h (fun v3 => [(4, kI v3), (0, .ref (ad t)), (1, .ref (ad r1)), (2, kI a2), (3, kI v1)]) (by decide) (fun _ => rfl) (fun v3 h => ?_)
    refine k_aload_n X dX1_hear_36 1 rfl ?_
    refine k_getR (t := t + 1) X fk_X1_9 ht (by decide) rfl dX1_hear_37 ?_
    refine k_aload_n X dX1_hear_40 2 rfl ?_
    refine k_getR (t := r1 + 36) X fk_X1_85 hr1 (by decide) rfl dX1_hear_41 ?_
    refine k_iload_n X dX1_hear_44 3 rfl ?_
    refine k_iald X (kc_0_7 hr1) (Nat.le_of_ble_eq_true rfl) dX1_hear_45 h (fun h => ?_)
    refine k_iald X (kc_1_2 ht) (Nat.le_of_ble_eq_true rfl) dX1_hear_46 h (fun h => ?_)
    refine k_istore X dX1_hear_47 h (fun v4 => [(5, kI v4), (4, kI v3), (0, .ref (ad t)), (1, .ref (ad r1)), (2, kI a2), (3, kI v1)]) (by decide) (fun _ => rfl) (fun v4 h => ?_)
    refine k_iload_n X dX1_hear_49 5 rfl ?_
    refine k_iconst X dX1_hear_50 ?_
    refine k_icmp_ne (tgt := 116) X dX1_hear_51 (by decide) ⟨h.1, ⟨by decide, by decide⟩, h.2⟩ (fun h => ?_) (fun h => ?_)
    · refine k_aload_n X dX1_hear_116 2 rfl ?_
      refine k_getR (t := t + 6) X fk_X1_27 ht (by decide) rfl dX1_hear_117 ?_
      refine k_iload X dX1_hear_120 1 rfl ?_
      refine k_dup2 X dX1_hear_122 rfl rfl ?_
      refine k_iald X (kc_1_7 ht) (Nat.le_of_ble_eq_true rfl) dX1_hear_123 h (fun h => ?_)
      refine k_iconst X dX1_hear_124 ?_
      refine k_iload X dX1_hear_125 0 rfl ?_
      refine k_ishl X dX1_hear_127 ?_
      refine k_ior X dX1_hear_128 ?_
      refine k_iast X (kc_1_7 ht) (Nat.le_of_ble_eq_true rfl) dX1_hear_129 h (fun h => k_nameH h (fun z5 h => ?_))
      refine k_iload_n X dX1_hear_130 5 rfl ?_
      refine k_iconst X dX1_hear_131 ?_
      refine k_icmp_ne (tgt := 163) X dX1_hear_132 (by decide) ⟨h.1, ⟨by decide, by decide⟩, h.2⟩ (fun h => ?_) (fun h => ?_)
      · refine k_aload_n X dX1_hear_163 2 rfl ?_
        refine k_getR (t := t + 5) X fk_X1_24 ht (by decide) rfl dX1_hear_164 ?_
        refine k_iload X dX1_hear_167 1 rfl ?_
        refine k_dup2 X dX1_hear_169 rfl rfl ?_
        refine k_iald X (kc_1_6 ht) (Nat.le_of_ble_eq_true rfl) dX1_hear_170 h (fun h => ?_)
        refine k_iconst X dX1_hear_171 ?_
        refine k_iload X dX1_hear_172 0 rfl ?_
        refine k_ishl X dX1_hear_174 ?_
        refine k_ior X dX1_hear_175 ?_
        refine k_iast X (kc_1_6 ht) (Nat.le_of_ble_eq_true rfl) dX1_hear_176 h (fun h => k_nameH h (fun z6 h => ?_))
        refine k_aload_n X dX1_hear_177 2 rfl ?_
        refine k_getR (t := t + 3) X fk_X1_18 ht (by decide) rfl dX1_hear_178 ?_
        refine k_iload X dX1_hear_181 0 rfl ?_
        refine k_dup2 X dX1_hear_183 rfl rfl ?_
        refine k_iald X (kc_1_4 ht) (Nat.le_of_ble_eq_true rfl) dX1_hear_184 h (fun h => ?_)
        refine k_iconst X dX1_hear_185 ?_
        refine k_ior X dX1_hear_186 ?_
        refine k_iast X (kc_1_4 ht) (Nat.le_of_ble_eq_true rfl) dX1_hear_187 h (fun h => k_nameH h (fun z7 h => ?_))
        exact k_vret X hrt hlk dX1_hear_188 h
      · refine k_aload_n X dX1_hear_135 2 rfl ?_
        refine k_getR (t := t + 4) X fk_X1_21 ht (by decide) rfl dX1_hear_136 ?_
        refine k_iload X dX1_hear_139 1 rfl ?_
        refine k_dup2 X dX1_hear_141 rfl rfl ?_
        refine k_iald X (kc_1_5 ht) (Nat.le_of_ble_eq_true rfl) dX1_hear_142 h (fun h => ?_)
        refine k_iconst X dX1_hear_143 ?_
        refine k_iload X dX1_hear_144 0 rfl ?_
        refine k_ishl X dX1_hear_146 ?_
        refine k_ior X dX1_hear_147 ?_
        refine k_iast X (kc_1_5 ht) (Nat.le_of_ble_eq_true rfl) dX1_hear_148 h (fun h => k_nameH h (fun z8 h => ?_))
        refine k_aload_n X dX1_hear_149 2 rfl ?_
        refine k_getR (t := t + 3) X fk_X1_18 ht (by decide) rfl dX1_hear_150 ?_
        refine k_iload X dX1_hear_153 0 rfl ?_
        refine k_dup2 X dX1_hear_155 rfl rfl ?_
        refine k_iald X (kc_1_4 ht) (Nat.le_of_ble_eq_true rfl) dX1_hear_156 h (fun h => ?_)
        refine k_iconst X dX1_hear_157 ?_
        refine k_ior X dX1_hear_158 ?_
        refine k_iast X (kc_1_4 ht) (Nat.le_of_ble_eq_true rfl) dX1_hear_159 h (fun h => k_nameH h (fun z9 h => ?_))
        refine k_goto (tgt := 188) X dX1_hear_160 (by decide) ?_
        exact k_vret X hrt hlk dX1_hear_188 h
    · refine k_aload_n X dX1_hear_54 2 rfl ?_
      refine k_getR (t := t + 8) X fk_X1_33 ht (by decide) rfl dX1_hear_55 ?_
      refine k_iload X dX1_hear_58 1 rfl ?_
      refine k_dup2 X dX1_hear_60 rfl rfl ?_
      refine k_iald X (kc_1_9 ht) (Nat.le_of_ble_eq_true rfl) dX1_hear_61 h (fun h => ?_)
      refine k_iconst X dX1_hear_62 ?_
      refine k_iload X dX1_hear_63 0 rfl ?_
      refine k_ishl X dX1_hear_65 ?_
      refine k_ior X dX1_hear_66 ?_
      refine k_iast X (kc_1_9 ht) (Nat.le_of_ble_eq_true rfl) dX1_hear_67 h (fun h => k_nameH h (fun z10 h => ?_))
      refine k_aload_n X dX1_hear_68 2 rfl ?_
      refine k_getR (t := t + 8) X fk_X1_33 ht (by decide) rfl dX1_hear_69 ?_
      refine k_iload X dX1_hear_72 0 rfl ?_
      refine k_dup2 X dX1_hear_74 rfl rfl ?_
      refine k_iald X (kc_1_9 ht) (Nat.le_of_ble_eq_true rfl) dX1_hear_75 h (fun h => ?_)
      refine k_iconst X dX1_hear_76 ?_
      refine k_iload X dX1_hear_77 1 rfl ?_
      refine k_ishl X dX1_hear_79 ?_
      refine k_ior X dX1_hear_80 ?_
      refine k_iast X (kc_1_9 ht) (Nat.le_of_ble_eq_true rfl) dX1_hear_81 h (fun h => k_nameH h (fun z11 h => ?_))
      refine k_aload_n X dX1_hear_82 2 rfl ?_
      refine k_getR (t := t + 9) X fk_X1_36 ht (by decide) rfl dX1_hear_83 ?_
      refine k_iload X dX1_hear_86 1 rfl ?_
      refine k_dup2 X dX1_hear_88 rfl rfl ?_
      refine k_iald X (kc_1_10 ht) (Nat.le_of_ble_eq_true rfl) dX1_hear_89 h (fun h => ?_)
      refine k_iconst X dX1_hear_90 ?_
      refine k_iadd X dX1_hear_91 ?_
      refine k_iast X (kc_1_10 ht) (Nat.le_of_ble_eq_true rfl) dX1_hear_92 h (fun h => k_nameH h (fun z12 h => ?_))
      refine k_aload_n X dX1_hear_93 2 rfl ?_
      refine k_getR (t := t + 9) X fk_X1_36 ht (by decide) rfl dX1_hear_94 ?_
      refine k_iload X dX1_hear_97 0 rfl ?_
      refine k_dup2 X dX1_hear_99 rfl rfl ?_
      refine k_iald X (kc_1_10 ht) (Nat.le_of_ble_eq_true rfl) dX1_hear_100 h (fun h => ?_)
      refine k_iload X dX1_hear_101 1 rfl ?_
      refine k_iload X dX1_hear_103 0 rfl ?_
      refine k_icmp_ne (tgt := 112) X dX1_hear_105 (by decide) h (fun h => ?_) (fun h => ?_)
      · refine k_iconst X dX1_hear_112 ?_
        refine k_iadd X dX1_hear_113 ?_
        refine k_iast X (kc_1_10 ht) (Nat.le_of_ble_eq_true rfl) dX1_hear_114 h (fun h => k_nameH h (fun z13 h => ?_))
        exact k_vret X hrt hlk dX1_hear_115 h
      · refine k_iconst X dX1_hear_108 ?_
        refine k_goto (tgt := 113) X dX1_hear_109 (by decide) ?_
        refine k_iadd X dX1_hear_113 ?_
        refine k_iast X (kc_1_10 ht) (Nat.le_of_ble_eq_true rfl) dX1_hear_114 h (fun h => k_nameH h (fun z14 h => ?_))
        exact k_vret X hrt hlk dX1_hear_115 h
  · refine k_icmp_eq (tgt := 23) X dX1_hear_9 (by decide) ⟨h.1, ⟨by decide, by decide⟩, h.2⟩ (fun h => ?_) (fun h => ?_)
    · exact k_sub [1, 2, 3, 0] rfl (hJ2 h)
    · refine k_iload_n X dX1_hear_12 0 rfl ?_
      refine k_iconst X dX1_hear_13 ?_
      refine k_icmp_eq (tgt := 23) X dX1_hear_14 (by decide) ⟨h.1, ⟨by decide, by decide⟩, h.2⟩ (fun h => ?_) (fun h => ?_)
      · exact k_sub [1, 2, 3, 0] rfl (hJ2 h)
      · refine k_iload_n X dX1_hear_17 0 rfl ?_
        refine k_iconst X dX1_hear_18 ?_
        refine k_icmp_eq (tgt := 23) X dX1_hear_19 (by decide) ⟨h.1, ⟨by decide, by decide⟩, h.2⟩ (fun h => ?_) (fun h => ?_)
        · exact k_sub [1, 2, 3, 0] rfl (hJ2 h)
        · exact k_vret X hrt hlk dX1_hear_22 h
set_option maxHeartbeats 4000000 in
set_option maxRecDepth 100000 in
theorem ct_X1_rename {l : Launch} {D : va_G} {cA : Nat → ClassId} {ad sa : Nat → Nat} (hj : kInj NC ad) (t : Nat) (ht : kdC t = (0, 1, 13)) (a1 : Int) (a2 : Int) (a3 : Int) (z : Hp) (Kp : Hp → Prop) (h : cal_X1_rename t a1 a2 a3 z Kp) : kMet l yX1_rename cX1_rename 5 none 0 NC kdC D cA ad sa [.ref (ad t), kI a1, kI a2, kI a3] z (kQv NC kdC D cA ad Kp) := by
  unfold cal_X1_rename at h
  refine k_met (cc := cX1_rename) (own := RX1) (nL := 5) rfl rfl (Nat.le_of_ble_eq_true rfl) hj kltC (fun p e s m below meth c X hrt hlk => ?_)
  refine k_sub (lv' := [(0, .ref (ad t)), (1, kI a1), (2, kI a2), (3, kI a3)]) [0, 1, 2, 3] rfl ?_
  refine k_iconst X dX1_rename_0 ?_
  refine k_istore X dX1_rename_1 h (fun v1 => [(4, kI v1), (0, .ref (ad t)), (1, kI a1), (2, kI a2), (3, kI a3)]) (by decide) (fun _ => rfl) (fun v1 h => ?_)
  refine k_sub (lv' := [(0, .ref (ad t)), (1, kI a1), (2, kI a2), (3, kI a3), (4, kI v1)]) [1, 2, 3, 4, 0] rfl ?_
  refine h (fun v3 z4 => kAt p l e (kR 0) s m ([.ref (ad t), kI a1, kI a2, kI a3] : List Value).toArray below meth c (MQ below (kQv NC kdC D cA ad Kp) ([.ref (ad t), kI a1, kI a2, kI a3] : List Value).toArray s 0 0 (kA NC ad)) 5 NC kdC D cA ad 3 [(0, .ref (ad t)), (1, kI a1), (2, kI a2), (3, kI a3), (4, kI v3)] [] z4) (fun v3 z4 h => ?_)
  refine k_iload X dX1_rename_3 4 rfl ?_
  refine k_iload_n X dX1_rename_5 3 rfl ?_
  refine k_icmp_ge (tgt := 34) X dX1_rename_6 (by decide) h (fun h => ?_) (fun h => ?_)
  · exact k_vret X hrt hlk dX1_rename_34 h
  · refine k_aload_n X dX1_rename_9 0 rfl ?_
    refine k_getR (t := t + 1) X fk_X1_9 ht (by decide) rfl dX1_rename_10 ?_
    refine k_iload X dX1_rename_13 4 rfl ?_
    refine k_iald X (kc_1_2 ht) (Nat.le_of_ble_eq_true rfl) dX1_rename_15 h (fun h => ?_)
    refine k_iload_n X dX1_rename_16 1 rfl ?_
    refine jn_use (fun J5 => ∀ (z6 : Hp), J5 z6 → kAt p l e (kR 0) s m ([.ref (ad t), kI a1, kI a2, kI a3] : List Value).toArray below meth c (MQ below (kQv NC kdC D cA ad Kp) ([.ref (ad t), kI a1, kI a2, kI a3] : List Value).toArray s 0 0 (kA NC ad)) 5 NC kdC D cA ad 28 [(0, .ref (ad t)), (1, kI a1), (2, kI a2), (3, kI a3), (4, kI v3)] [] z6) h ?_ (fun J5 hJ5 h => ?_)
    · intro z6 h
      refine k_iinc X dX1_rename_28 4 rfl h (fun v7 => [(4, kI v7), (0, .ref (ad t)), (1, kI a1), (2, kI a2), (3, kI a3)]) (by decide) (fun _ => rfl) (fun v7 h => ?_)
      refine k_goto (tgt := 3) X dX1_rename_31 (by decide) ?_
      exact k_sub [1, 2, 3, 4, 0] rfl h
    · refine k_icmp_ne (tgt := 28) X dX1_rename_17 (by decide) h (fun h => ?_) (fun h => ?_)
      · exact k_sub [0, 1, 2, 3, 4] rfl (hJ5 _ h)
      · refine k_aload_n X dX1_rename_20 0 rfl ?_
        refine k_getR (t := t + 1) X fk_X1_9 ht (by decide) rfl dX1_rename_21 ?_
        refine k_iload X dX1_rename_24 4 rfl ?_
        refine k_iload_n X dX1_rename_26 2 rfl ?_
        refine k_iast X (kc_1_2 ht) (Nat.le_of_ble_eq_true rfl) dX1_rename_27 h (fun h => k_nameH h (fun z8 h => ?_))
        exact k_sub [0, 1, 2, 3, 4] rfl (hJ5 _ h)
set_option maxHeartbeats 4000000 in
set_option maxRecDepth 100000 in
theorem ct_X1_joinSames {l : Launch} {D : va_G} {cA : Nat → ClassId} {ad sa : Nat → Nat} (hj : kInj NC ad) (t : Nat) (ht : kdC t = (0, 1, 13)) (r1 : Nat) (hr1 : kdC r1 = (0, 0, 11)) (r2 : Nat) (hr2 : kdC r2 = (1, 61, 0)) (a3 : Int) (z : Hp) (Kp : Hp → Prop) (h : cal_X1_joinSames t r1 r2 a3 z Kp) : kMet l yX1_joinSames cX1_joinSames 8 none 1 NC kdC D cA ad sa [.ref (ad t), .ref (ad r1), .ref (ad r2), kI a3] z (kQv NC kdC D cA ad Kp) := by
  unfold cal_X1_joinSames at h
  refine k_met (cc := cX1_joinSames) (own := RX1) (nL := 8) rfl rfl (Nat.le_of_ble_eq_true rfl) hj kltC (fun p e s m below meth c X hrt hlk => ?_)
  refine k_sub (lv' := [(0, .ref (ad t)), (1, .ref (ad r1)), (2, .ref (ad r2)), (3, kI a3)]) [0, 1, 2, 3] rfl ?_
  refine k_iconst X dX1_joinSames_0 ?_
  refine k_istore X dX1_joinSames_1 h (fun v1 => [(4, kI v1), (0, .ref (ad t)), (1, .ref (ad r1)), (2, .ref (ad r2)), (3, kI a3)]) (by decide) (fun _ => rfl) (fun v1 h => ?_)
  refine k_sub (lv' := [(0, .ref (ad t)), (1, .ref (ad r1)), (2, .ref (ad r2)), (3, kI a3), (4, kI v1)]) [1, 2, 3, 4, 0] rfl ?_
  refine h (fun v3 z4 => kAt p l e (kR 1) s m ([.ref (ad t), .ref (ad r1), .ref (ad r2), kI a3] : List Value).toArray below meth c (MQ below (kQv NC kdC D cA ad Kp) ([.ref (ad t), .ref (ad r1), .ref (ad r2), kI a3] : List Value).toArray s 0 0 (kA NC ad)) 8 NC kdC D cA ad 3 [(0, .ref (ad t)), (1, .ref (ad r1)), (2, .ref (ad r2)), (3, kI a3), (4, kI v3)] [] z4) (fun v3 z4 h => ?_)
  refine k_iload X dX1_joinSames_3 4 rfl ?_
  refine k_iload_n X dX1_joinSames_5 3 rfl ?_
  refine k_icmp_ge (tgt := 82) X dX1_joinSames_6 (by decide) h (fun h => ?_) (fun h => ?_)
  · exact k_vret X hrt hlk dX1_joinSames_82 h
  · refine k_aload_n X dX1_joinSames_9 2 rfl ?_
    refine k_iload X dX1_joinSames_10 4 rfl ?_
    refine k_iald X hr2 (Nat.le_of_ble_eq_true rfl) dX1_joinSames_12 h (fun h => ?_)
    refine k_istore X dX1_joinSames_13 h (fun v5 => [(5, kI v5), (0, .ref (ad t)), (1, .ref (ad r1)), (2, .ref (ad r2)), (3, kI a3), (4, kI v3)]) (by decide) (fun _ => rfl) (fun v5 h => ?_)
    refine k_aload_n X dX1_joinSames_15 2 rfl ?_
    refine k_getR (t := r1 + 34) X fk_X1_79 hr1 (by decide) rfl dX1_joinSames_16 ?_
    refine k_iload X dX1_joinSames_19 0 rfl ?_
    refine k_iald X (kc_0_5 hr1) (Nat.le_of_ble_eq_true rfl) dX1_joinSames_21 h (fun h => ?_)
    refine k_iconst X dX1_joinSames_22 ?_
    refine jn_use (fun J6 => ∀ (z7 : Hp), J6 z7 → kAt p l e (kR 1) s m ([.ref (ad t), .ref (ad r1), .ref (ad r2), kI a3] : List Value).toArray below meth c (MQ below (kQv NC kdC D cA ad Kp) ([.ref (ad t), .ref (ad r1), .ref (ad r2), kI a3] : List Value).toArray s 0 0 (kA NC ad)) 8 NC kdC D cA ad 76 [(0, .ref (ad t)), (1, .ref (ad r1)), (2, .ref (ad r2)), (3, kI a3), (4, kI v3)] [] z7) h ?_ (fun J6 hJ6 h => ?_)
    · intro z7 h
      refine k_iinc X dX1_joinSames_76 4 rfl h (fun v8 => [(4, kI v8), (0, .ref (ad t)), (1, .ref (ad r1)), (2, .ref (ad r2)), (3, kI a3)]) (by decide) (fun _ => rfl) (fun v8 h => ?_)
      refine k_goto (tgt := 3) X dX1_joinSames_79 (by decide) ?_
      exact k_sub [1, 2, 3, 4, 0] rfl h
    · refine k_icmp_ne (tgt := 76) X dX1_joinSames_23 (by decide) ⟨h.1, ⟨by decide, by decide⟩, h.2⟩ (fun h => ?_) (fun h => ?_)
      · exact k_sub [1, 2, 3, 4, 5] rfl (hJ6 _ h)
      · refine k_aload_n X dX1_joinSames_26 1 rfl ?_
        refine k_getR (t := t + 1) X fk_X1_9 ht (by decide) rfl dX1_joinSames_27 ?_
        refine k_aload_n X dX1_joinSames_30 2 rfl ?_
        refine k_getR (t := r1 + 35) X fk_X1_82 hr1 (by decide) rfl dX1_joinSames_31 ?_
        refine k_iload X dX1_joinSames_34 0 rfl ?_
        refine k_iald X (kc_0_6 hr1) (Nat.le_of_ble_eq_true rfl) dX1_joinSames_36 h (fun h => ?_)
        refine k_iald X (kc_1_2 ht) (Nat.le_of_ble_eq_true rfl) dX1_joinSames_37 h (fun h => ?_)
        refine k_istore X dX1_joinSames_38 h (fun v9 => [(6, kI v9), (5, kI v5), (0, .ref (ad t)), (1, .ref (ad r1)), (2, .ref (ad r2)), (3, kI a3), (4, kI v3)]) (by decide) (fun _ => rfl) (fun v9 h => ?_)
        refine k_aload_n X dX1_joinSames_40 2 rfl ?_
        refine k_getR (t := t + 1) X fk_X1_9 ht (by decide) rfl dX1_joinSames_41 ?_
        refine k_aload_n X dX1_joinSames_44 3 rfl ?_
        refine k_getR (t := r1 + 36) X fk_X1_85 hr1 (by decide) rfl dX1_joinSames_45 ?_
        refine k_iload X dX1_joinSames_48 1 rfl ?_
        refine k_iald X (kc_0_7 hr1) (Nat.le_of_ble_eq_true rfl) dX1_joinSames_50 h (fun h => ?_)
        refine k_iald X (kc_1_2 ht) (Nat.le_of_ble_eq_true rfl) dX1_joinSames_51 h (fun h => ?_)
        refine k_istore X dX1_joinSames_52 h (fun v10 => [(7, kI v10), (6, kI v9), (5, kI v5), (0, .ref (ad t)), (1, .ref (ad r1)), (2, .ref (ad r2)), (3, kI a3), (4, kI v3)]) (by decide) (fun _ => rfl) (fun v10 h => ?_)
        refine k_aload_n X dX1_joinSames_54 3 rfl ?_
        refine k_iload X dX1_joinSames_55 1 rfl ?_
        refine k_iload X dX1_joinSames_57 0 rfl ?_
        refine k_mmax X mw446 mw447 mw11 mw448 (kR_one (by decide)) (Nat.le_of_ble_eq_true rfl) dX1_joinSames_59 h (fun h => ?_)
        refine k_iload X dX1_joinSames_62 1 rfl ?_
        refine k_iload X dX1_joinSames_64 0 rfl ?_
        refine k_mmin X mw449 mw450 mw11 mw451 (kR_one (by decide)) (Nat.le_of_ble_eq_true rfl) dX1_joinSames_66 h (fun h => ?_)
        refine k_aload_n X dX1_joinSames_69 4 rfl ?_
        refine k_getI X fk_X1_53 hr1 rfl dX1_joinSames_70 ?_
        refine k_afterV (st := []) (fun H locs ls hP hS hl => k_runV (As := [kI (if v9 < v10 then v10 else v9), kI (if v10 < v9 then v10 else v9), kI (z4 r1 0)]) X lk_X1_97 rfl yo_X1_rename rfl (kR_ok (by decide) (by decide)) (ct_X1_rename (kCx_j X) t ht _ _ _ _ _ h) ht rfl (Nat.le_of_ble_eq_true rfl) dX1_joinSames_73 hP hS hl) (fun z11 h => ?_)
        exact k_sub [3, 4, 5, 6, 7] rfl (hJ6 _ h)
set_option maxHeartbeats 4000000 in
set_option maxRecDepth 100000 in
theorem ct_X1_wipe {l : Launch} {D : va_G} {cA : Nat → ClassId} {ad sa : Nat → Nat} (hj : kInj NC ad) (t : Nat) (ht : kdC t = (0, 1, 13)) (z : Hp) (Kp : Hp → Prop) (h : cal_X1_wipe t z Kp) : kMet l yX1_wipe cX1_wipe 2 none 0 NC kdC D cA ad sa [.ref (ad t)] z (kQv NC kdC D cA ad Kp) := by
  unfold cal_X1_wipe at h
  refine k_met (cc := cX1_wipe) (own := RX1) (nL := 2) rfl rfl (Nat.le_of_ble_eq_true rfl) hj kltC (fun p e s m below meth c X hrt hlk => ?_)
  refine k_sub (lv' := [(0, .ref (ad t))]) [0] rfl ?_
  refine k_aload_n X dX1_wipe_0 0 rfl ?_
  refine k_iconst X dX1_wipe_1 ?_
  refine k_putI X fp_X1_59 ht rfl dX1_wipe_2 (k_nameH h (fun z1 h => ?_))
  refine k_iconst X dX1_wipe_5 ?_
  refine k_istore_n X dX1_wipe_6 h (fun v2 => [(1, kI v2), (0, .ref (ad t))]) (by decide) (fun _ => rfl) (fun v2 h => ?_)
  refine k_sub (lv' := [(0, .ref (ad t)), (1, kI v2)]) [1, 0] rfl ?_
  refine h (fun v4 z5 => kAt p l e (kR 0) s m ([.ref (ad t)] : List Value).toArray below meth c (MQ below (kQv NC kdC D cA ad Kp) ([.ref (ad t)] : List Value).toArray s 0 0 (kA NC ad)) 2 NC kdC D cA ad 7 [(0, .ref (ad t)), (1, kI v4)] [] z5) (fun v4 z5 h => ?_)
  refine k_iload_n X dX1_wipe_7 1 rfl ?_
  refine k_bipush X dX1_wipe_8 (by decide +kernel) ?_
  refine k_icmp_ge (tgt := 82) X dX1_wipe_10 (by decide) ⟨h.1, ⟨by decide, by decide⟩, h.2⟩ (fun h => ?_) (fun h => ?_)
  · exact k_vret X hrt hlk dX1_wipe_82 h
  · refine k_aload_n X dX1_wipe_13 0 rfl ?_
    refine k_getR (t := t + 1) X fk_X1_9 ht (by decide) rfl dX1_wipe_14 ?_
    refine k_iload_n X dX1_wipe_17 1 rfl ?_
    refine k_iload_n X dX1_wipe_18 1 rfl ?_
    refine k_iast X (kc_1_2 ht) (Nat.le_of_ble_eq_true rfl) dX1_wipe_19 h (fun h => k_nameH h (fun z6 h => ?_))
    refine k_aload_n X dX1_wipe_20 0 rfl ?_
    refine k_getR (t := t + 2) X fk_X1_15 ht (by decide) rfl dX1_wipe_21 ?_
    refine k_iload_n X dX1_wipe_24 1 rfl ?_
    refine k_iconst X dX1_wipe_25 ?_
    refine k_iast X (kc_1_3 ht) (Nat.le_of_ble_eq_true rfl) dX1_wipe_26 h (fun h => k_nameH h (fun z7 h => ?_))
    refine k_aload_n X dX1_wipe_27 0 rfl ?_
    refine k_getR (t := t + 3) X fk_X1_18 ht (by decide) rfl dX1_wipe_28 ?_
    refine k_iload_n X dX1_wipe_31 1 rfl ?_
    refine k_iconst X dX1_wipe_32 ?_
    refine k_iast X (kc_1_4 ht) (Nat.le_of_ble_eq_true rfl) dX1_wipe_33 h (fun h => k_nameH h (fun z8 h => ?_))
    refine k_aload_n X dX1_wipe_34 0 rfl ?_
    refine k_getR (t := t + 4) X fk_X1_21 ht (by decide) rfl dX1_wipe_35 ?_
    refine k_iload_n X dX1_wipe_38 1 rfl ?_
    refine k_iconst X dX1_wipe_39 ?_
    refine k_iast X (kc_1_5 ht) (Nat.le_of_ble_eq_true rfl) dX1_wipe_40 h (fun h => k_nameH h (fun z9 h => ?_))
    refine k_aload_n X dX1_wipe_41 0 rfl ?_
    refine k_getR (t := t + 5) X fk_X1_24 ht (by decide) rfl dX1_wipe_42 ?_
    refine k_iload_n X dX1_wipe_45 1 rfl ?_
    refine k_iconst X dX1_wipe_46 ?_
    refine k_iast X (kc_1_6 ht) (Nat.le_of_ble_eq_true rfl) dX1_wipe_47 h (fun h => k_nameH h (fun z10 h => ?_))
    refine k_aload_n X dX1_wipe_48 0 rfl ?_
    refine k_getR (t := t + 6) X fk_X1_27 ht (by decide) rfl dX1_wipe_49 ?_
    refine k_iload_n X dX1_wipe_52 1 rfl ?_
    refine k_iconst X dX1_wipe_53 ?_
    refine k_iast X (kc_1_7 ht) (Nat.le_of_ble_eq_true rfl) dX1_wipe_54 h (fun h => k_nameH h (fun z11 h => ?_))
    refine k_aload_n X dX1_wipe_55 0 rfl ?_
    refine k_getR (t := t + 8) X fk_X1_33 ht (by decide) rfl dX1_wipe_56 ?_
    refine k_iload_n X dX1_wipe_59 1 rfl ?_
    refine k_iconst X dX1_wipe_60 ?_
    refine k_iast X (kc_1_9 ht) (Nat.le_of_ble_eq_true rfl) dX1_wipe_61 h (fun h => k_nameH h (fun z12 h => ?_))
    refine k_aload_n X dX1_wipe_62 0 rfl ?_
    refine k_getR (t := t + 9) X fk_X1_36 ht (by decide) rfl dX1_wipe_63 ?_
    refine k_iload_n X dX1_wipe_66 1 rfl ?_
    refine k_iconst X dX1_wipe_67 ?_
    refine k_iast X (kc_1_10 ht) (Nat.le_of_ble_eq_true rfl) dX1_wipe_68 h (fun h => k_nameH h (fun z13 h => ?_))
    refine k_aload_n X dX1_wipe_69 0 rfl ?_
    refine k_getR (t := t + 10) X fk_X1_39 ht (by decide) rfl dX1_wipe_70 ?_
    refine k_iload_n X dX1_wipe_73 1 rfl ?_
    refine k_iconst X dX1_wipe_74 ?_
    refine k_iast X (kc_1_11 ht) (Nat.le_of_ble_eq_true rfl) dX1_wipe_75 h (fun h => k_nameH h (fun z14 h => ?_))
    refine k_iinc X dX1_wipe_76 1 rfl h (fun v15 => [(1, kI v15), (0, .ref (ad t))]) (by decide) (fun _ => rfl) (fun v15 h => ?_)
    refine k_goto (tgt := 7) X dX1_wipe_79 (by decide) ?_
    exact k_sub [1, 0] rfl h
set_option maxHeartbeats 4000000 in
set_option maxRecDepth 100000 in
theorem ct_X1_gather {l : Launch} {D : va_G} {cA : Nat → ClassId} {ad sa : Nat → Nat} (hj : kInj NC ad) (t : Nat) (ht : kdC t = (0, 1, 13)) (r1 : Nat) (hr1 : kdC r1 = (0, 0, 11)) (r2 : Nat) (hr2 : kdC r2 = (1, 61, 0)) (a3 : Int) (z : Hp) (Kp : Hp → Prop) (h : cal_X1_gather t r1 r2 a3 z Kp) : kMet l yX1_gather cX1_gather 6 none 3 NC kdC D cA ad sa [.ref (ad t), .ref (ad r1), .ref (ad r2), kI a3] z (kQv NC kdC D cA ad Kp) := by
  unfold cal_X1_gather at h
  refine k_met (cc := cX1_gather) (own := RX1) (nL := 6) rfl rfl (Nat.le_of_ble_eq_true rfl) hj kltC (fun p e s m below meth c X hrt hlk => ?_)
  refine k_sub (lv' := [(0, .ref (ad t)), (1, .ref (ad r1)), (2, .ref (ad r2)), (3, kI a3)]) [0, 1, 2, 3] rfl ?_
  refine k_aload_n X dX1_gather_0 0 rfl ?_
  refine k_afterV (st := []) (fun H locs ls hP hS hl => k_runV (As := []) X lk_X1_46 rfl yo_X1_wipe rfl (kR_ok (by decide) (by decide)) (ct_X1_wipe (kCx_j X) t ht _ _ h) ht rfl (Nat.le_of_ble_eq_true rfl) dX1_gather_1 hP hS hl) (fun z1 h => ?_)
  refine k_aload_n X dX1_gather_4 0 rfl ?_
  refine k_aload_n X dX1_gather_5 1 rfl ?_
  refine k_aload_n X dX1_gather_6 2 rfl ?_
  refine k_iload_n X dX1_gather_7 3 rfl ?_
  refine k_afterV (st := []) (fun H locs ls hP hS hl => k_runV (As := [.ref (ad r1), .ref (ad r2), kI a3]) X lk_X1_49 rfl yo_X1_joinSames rfl (kR_ok (by decide) (by decide)) (ct_X1_joinSames (kCx_j X) t ht r1 hr1 r2 hr2 _ _ _ h) ht rfl (Nat.le_of_ble_eq_true rfl) dX1_gather_8 hP hS hl) (fun z2 h => ?_)
  refine k_iconst X dX1_gather_11 ?_
  refine k_istore X dX1_gather_12 h (fun v3 => [(4, kI v3), (0, .ref (ad t)), (1, .ref (ad r1)), (2, .ref (ad r2)), (3, kI a3)]) (by decide) (fun _ => rfl) (fun v3 h => ?_)
  refine k_sub (lv' := [(0, .ref (ad t)), (1, .ref (ad r1)), (2, .ref (ad r2)), (3, kI a3), (4, kI v3)]) [1, 2, 3, 4, 0] rfl ?_
  refine h (fun v5 z6 => kAt p l e (kR 3) s m ([.ref (ad t), .ref (ad r1), .ref (ad r2), kI a3] : List Value).toArray below meth c (MQ below (kQv NC kdC D cA ad Kp) ([.ref (ad t), .ref (ad r1), .ref (ad r2), kI a3] : List Value).toArray s 0 0 (kA NC ad)) 6 NC kdC D cA ad 14 [(0, .ref (ad t)), (1, .ref (ad r1)), (2, .ref (ad r2)), (3, kI a3), (4, kI v5)] [] z6) (fun v5 z6 h => ?_)
  refine k_iload X dX1_gather_14 4 rfl ?_
  refine k_aload_n X dX1_gather_16 1 rfl ?_
  refine k_getI X fk_X1_53 hr1 rfl dX1_gather_17 ?_
  refine k_icmp_ge (tgt := 79) X dX1_gather_20 (by decide) h (fun h => ?_) (fun h => ?_)
  · refine k_aload_n X dX1_gather_79 0 rfl ?_
    refine k_aload_n X dX1_gather_80 0 rfl ?_
    refine k_getI X fk_X1_59 ht rfl dX1_gather_81 ?_
    refine k_afterP (st := [.ref (ad t)]) (fun H locs ls hP hS hl => k_runS (As := [kI (z6 t 1)]) X lk_X1_63 yo_J6_bitCount_0f7a4 rfl (kR_ok (by decide) (by decide)) (ct_J6_bitCount_0f7a4 (kCx_j X) (kCx_l X) _ _ _ h) (Nat.le_of_ble_eq_true rfl) dX1_gather_84 hP hS hl) (fun v7 h => ?_)
    refine k_putI X fp_X1_69 ht rfl dX1_gather_87 (k_nameH h (fun z8 h => ?_))
    refine k_iconst X dX1_gather_90 ?_
    refine k_istore X dX1_gather_91 h (fun v9 => [(4, kI v9), (0, .ref (ad t)), (1, .ref (ad r1)), (2, .ref (ad r2)), (3, kI a3)]) (by decide) (fun _ => rfl) (fun v9 h => ?_)
    refine k_sub (lv' := [(0, .ref (ad t)), (1, .ref (ad r1)), (2, .ref (ad r2)), (3, kI a3), (4, kI v9)]) [1, 2, 3, 4, 0] rfl ?_
    refine h (fun v11 z12 => kAt p l e (kR 3) s m ([.ref (ad t), .ref (ad r1), .ref (ad r2), kI a3] : List Value).toArray below meth c (MQ below (kQv NC kdC D cA ad Kp) ([.ref (ad t), .ref (ad r1), .ref (ad r2), kI a3] : List Value).toArray s 0 0 (kA NC ad)) 6 NC kdC D cA ad 93 [(0, .ref (ad t)), (1, .ref (ad r1)), (2, .ref (ad r2)), (3, kI a3), (4, kI v11)] [] z12) (fun v11 z12 h => ?_)
    refine k_iload X dX1_gather_93 4 rfl ?_
    refine k_iload_n X dX1_gather_95 3 rfl ?_
    refine k_icmp_ge (tgt := 114) X dX1_gather_96 (by decide) h (fun h => ?_) (fun h => ?_)
    · refine k_aload_n X dX1_gather_114 0 rfl ?_
      refine k_afterV (st := []) (fun H locs ls hP hS hl => k_runV (As := []) X lk_X1_76 rfl yo_X1_climb rfl (kR_ok (by decide) (by decide)) (ct_X1_climb (kCx_j X) t ht _ _ h) ht rfl (Nat.le_of_ble_eq_true rfl) dX1_gather_115 hP hS hl) (fun z13 h => ?_)
      exact k_vret X hrt hlk dX1_gather_118 h
    · refine k_aload_n X dX1_gather_99 0 rfl ?_
      refine k_aload_n X dX1_gather_100 1 rfl ?_
      refine k_aload_n X dX1_gather_101 2 rfl ?_
      refine k_iload X dX1_gather_102 4 rfl ?_
      refine k_iald X hr2 (Nat.le_of_ble_eq_true rfl) dX1_gather_104 h (fun h => ?_)
      refine k_afterV (st := []) (fun H locs ls hP hS hl => k_runV (As := [.ref (ad r1), kI (z12 r2 v11.toNat)]) X lk_X1_72 rfl yo_X1_hear rfl (kR_ok (by decide) (by decide)) (ct_X1_hear (kCx_j X) t ht r1 hr1 _ _ _ h) ht rfl (Nat.le_of_ble_eq_true rfl) dX1_gather_105 hP hS hl) (fun z14 h => ?_)
      refine k_iinc X dX1_gather_108 4 rfl h (fun v15 => [(4, kI v15), (0, .ref (ad t)), (1, .ref (ad r1)), (2, .ref (ad r2)), (3, kI a3)]) (by decide) (fun _ => rfl) (fun v15 h => ?_)
      refine k_goto (tgt := 93) X dX1_gather_111 (by decide) ?_
      exact k_sub [1, 2, 3, 4, 0] rfl h
  · refine k_aload_n X dX1_gather_23 0 rfl ?_
    refine k_getR (t := t + 1) X fk_X1_9 ht (by decide) rfl dX1_gather_24 ?_
    refine k_iload X dX1_gather_27 4 rfl ?_
    refine k_iald X (kc_1_2 ht) (Nat.le_of_ble_eq_true rfl) dX1_gather_29 h (fun h => ?_)
    refine k_istore X dX1_gather_30 h (fun v16 => [(5, kI v16), (0, .ref (ad t)), (1, .ref (ad r1)), (2, .ref (ad r2)), (3, kI a3), (4, kI v5)]) (by decide) (fun _ => rfl) (fun v16 h => ?_)
    refine k_aload_n X dX1_gather_32 1 rfl ?_
    refine k_dup X dX1_gather_33 rfl ?_
    refine k_getI X fk_X1_59 ht rfl dX1_gather_34 ?_
    refine k_iconst X dX1_gather_37 ?_
    refine k_iload X dX1_gather_38 0 rfl ?_
    refine k_ishl X dX1_gather_40 ?_
    refine k_ior X dX1_gather_41 ?_
    refine k_putI X fp_X1_59 ht rfl dX1_gather_42 (k_nameH h (fun z17 h => ?_))
    refine k_aload_n X dX1_gather_45 1 rfl ?_
    refine k_getR (t := t + 2) X fk_X1_15 ht (by decide) rfl dX1_gather_46 ?_
    refine k_iload X dX1_gather_49 0 rfl ?_
    refine k_dup2 X dX1_gather_51 rfl rfl ?_
    refine k_iald X (kc_1_3 ht) (Nat.le_of_ble_eq_true rfl) dX1_gather_52 h (fun h => ?_)
    refine k_iconst X dX1_gather_53 ?_
    refine k_iadd X dX1_gather_54 ?_
    refine k_iast X (kc_1_3 ht) (Nat.le_of_ble_eq_true rfl) dX1_gather_55 h (fun h => k_nameH h (fun z18 h => ?_))
    refine k_aload_n X dX1_gather_56 1 rfl ?_
    refine k_getR (t := t + 3) X fk_X1_18 ht (by decide) rfl dX1_gather_57 ?_
    refine k_iload X dX1_gather_60 0 rfl ?_
    refine k_dup2 X dX1_gather_62 rfl rfl ?_
    refine k_iald X (kc_1_4 ht) (Nat.le_of_ble_eq_true rfl) dX1_gather_63 h (fun h => ?_)
    refine k_aload_n X dX1_gather_64 2 rfl ?_
    refine k_getR (t := r1 + 33) X fk_X1_62 hr1 (by decide) rfl dX1_gather_65 ?_
    refine k_iload X dX1_gather_68 5 rfl ?_
    refine k_iald X (kc_0_4 hr1) (Nat.le_of_ble_eq_true rfl) dX1_gather_70 h (fun h => ?_)
    refine k_ior X dX1_gather_71 ?_
    refine k_iast X (kc_1_4 ht) (Nat.le_of_ble_eq_true rfl) dX1_gather_72 h (fun h => k_nameH h (fun z19 h => ?_))
    refine k_iinc X dX1_gather_73 5 rfl h (fun v20 => [(4, kI v20), (5, kI v16), (0, .ref (ad t)), (1, .ref (ad r1)), (2, .ref (ad r2)), (3, kI a3)]) (by decide) (fun _ => rfl) (fun v20 h => ?_)
    refine k_goto (tgt := 14) X dX1_gather_76 (by decide) ?_
    exact k_sub [2, 3, 4, 5, 0] rfl h
set_option maxHeartbeats 4000000 in
set_option maxRecDepth 100000 in
theorem ct_X1_greatestGeneration {l : Launch} {D : va_G} {cA : Nat → ClassId} {ad sa : Nat → Nat} (hj : kInj NC ad) (t : Nat) (ht : kdC t = (0, 1, 13)) (z : Hp) (Kp : Int → Prop) (h : cal_X1_greatestGeneration t z Kp) : kMet l yX1_greatestGeneration cX1_greatestGeneration 3 (some .int) 1 NC kdC D cA ad sa [.ref (ad t)] z (kQi NC kdC D cA ad (fun v z1 => z1 = z ∧ Kp v)) := by
  unfold cal_X1_greatestGeneration at h
  refine k_met (cc := cX1_greatestGeneration) (own := RX1) (nL := 3) rfl rfl (Nat.le_of_ble_eq_true rfl) hj kltC (fun p e s m below meth c X hrt hlk => ?_)
  refine k_sub (lv' := [(0, .ref (ad t))]) [0] rfl ?_
  refine k_aload_n X dX1_greatestGeneration_0 0 rfl ?_
  refine k_getI X fk_X1_111 ht rfl dX1_greatestGeneration_1 ?_
  refine k_if_ne (tgt := 14) X dX1_greatestGeneration_4 (by decide) h (fun h => ?_) (fun h => ?_)
  · refine k_bipush X dX1_greatestGeneration_14 (by decide +kernel) ?_
    exact k_iret X hrt hlk dX1_greatestGeneration_16 ⟨rfl, h⟩
  · refine k_aload_n X dX1_greatestGeneration_7 0 rfl ?_
    refine k_getI X fk_X1_69 ht rfl dX1_greatestGeneration_8 ?_
    refine k_if_ne (tgt := 17) X dX1_greatestGeneration_11 (by decide) h (fun h => ?_) (fun h => ?_)
    · refine k_iconst X dX1_greatestGeneration_17 ?_
      refine k_istore_n X dX1_greatestGeneration_18 h (fun v1 => [(1, kI v1), (0, .ref (ad t))]) (by decide) (fun _ => rfl) (fun v1 h => ?_)
      refine k_iconst X dX1_greatestGeneration_19 ?_
      refine k_istore_n X dX1_greatestGeneration_20 h (fun v2 => [(2, kI v2), (1, kI v1), (0, .ref (ad t))]) (by decide) (fun _ => rfl) (fun v2 h => ?_)
      refine k_sub (lv' := [(0, .ref (ad t)), (1, kI v1), (2, kI v2)]) [2, 1, 0] rfl ?_
      refine h (fun v4 v5 => kAt p l e (kR 1) s m ([.ref (ad t)] : List Value).toArray below meth c (MQ below (kQi NC kdC D cA ad (fun v z1 => z1 = z ∧ Kp v)) ([.ref (ad t)] : List Value).toArray s 0 0 (kA NC ad)) 3 NC kdC D cA ad 21 [(0, .ref (ad t)), (1, kI v4), (2, kI v5)] [] z) (fun v4 v5 h => ?_)
      refine k_iload_n X dX1_greatestGeneration_21 2 rfl ?_
      refine k_bipush X dX1_greatestGeneration_22 (by decide +kernel) ?_
      refine k_icmp_ge (tgt := 44) X dX1_greatestGeneration_24 (by decide) ⟨h.1, ⟨by decide, by decide⟩, h.2⟩ (fun h => ?_) (fun h => ?_)
      · refine k_iload_n X dX1_greatestGeneration_44 1 rfl ?_
        exact k_iret X hrt hlk dX1_greatestGeneration_45 ⟨rfl, h⟩
      · refine k_iload_n X dX1_greatestGeneration_27 1 rfl ?_
        refine k_aload_n X dX1_greatestGeneration_28 0 rfl ?_
        refine k_getR (t := t + 10) X fk_X1_39 ht (by decide) rfl dX1_greatestGeneration_29 ?_
        refine k_iload_n X dX1_greatestGeneration_32 2 rfl ?_
        refine k_iald X (kc_1_11 ht) (Nat.le_of_ble_eq_true rfl) dX1_greatestGeneration_33 h (fun h => ?_)
        refine k_mmax X mw446 mw447 mw11 mw448 (kR_one (by decide)) (Nat.le_of_ble_eq_true rfl) dX1_greatestGeneration_34 h (fun h => ?_)
        refine k_istore_n X dX1_greatestGeneration_37 h (fun v6 => [(1, kI v6), (0, .ref (ad t)), (2, kI v5)]) (by decide) (fun _ => rfl) (fun v6 h => ?_)
        refine k_iinc X dX1_greatestGeneration_38 2 rfl h (fun v7 => [(2, kI v7), (1, kI v6), (0, .ref (ad t))]) (by decide) (fun _ => rfl) (fun v7 h => ?_)
        refine k_goto (tgt := 21) X dX1_greatestGeneration_41 (by decide) ?_
        exact k_sub [2, 1, 0] rfl h
    · refine k_bipush X dX1_greatestGeneration_14 (by decide +kernel) ?_
      exact k_iret X hrt hlk dX1_greatestGeneration_16 ⟨rfl, h⟩
set_option maxHeartbeats 4000000 in
set_option maxRecDepth 100000 in
theorem ct_X1_least {l : Launch} {D : va_G} {cA : Nat → ClassId} {ad sa : Nat → Nat} (hj : kInj NC ad) (a1 : Int) (z : Hp) (Kp : Int → Prop) (h : cal_X1_least a1 z Kp) : kMet l yX1_least cX1_least 2 (some .int) 1 NC kdC D cA ad sa [kI a1] z (kQi NC kdC D cA ad (fun v z1 => z1 = z ∧ Kp v)) := by
  unfold cal_X1_least at h
  refine k_met (cc := cX1_least) (own := RX1) (nL := 2) rfl rfl (Nat.le_of_ble_eq_true rfl) hj kltC (fun p e s m below meth c X hrt hlk => ?_)
  refine k_sub (lv' := [(0, kI a1)]) [0] rfl ?_
  refine k_iconst X dX1_least_0 ?_
  refine k_istore_n X dX1_least_1 h (fun v1 => [(1, kI v1), (0, kI a1)]) (by decide) (fun _ => rfl) (fun v1 h => ?_)
  refine k_sub (lv' := [(0, kI a1), (1, kI v1)]) [1, 0] rfl ?_
  refine h (fun v3 => kAt p l e (kR 1) s m ([kI a1] : List Value).toArray below meth c (MQ below (kQi NC kdC D cA ad (fun v z1 => z1 = z ∧ Kp v)) ([kI a1] : List Value).toArray s 0 0 (kA NC ad)) 2 NC kdC D cA ad 2 [(0, kI a1), (1, kI v3)] [] z) (fun v3 h => ?_)
  refine k_iload_n X dX1_least_2 1 rfl ?_
  refine k_bipush X dX1_least_3 (by decide +kernel) ?_
  refine k_icmp_ge (tgt := 24) X dX1_least_5 (by decide) ⟨h.1, ⟨by decide, by decide⟩, h.2⟩ (fun h => ?_) (fun h => ?_)
  · refine k_bipush X dX1_least_24 (by decide +kernel) ?_
    exact k_iret X hrt hlk dX1_least_26 ⟨rfl, h⟩
  · refine k_iload_n X dX1_least_8 0 rfl ?_
    refine k_iload_n X dX1_least_9 1 rfl ?_
    refine k_afterP (st := []) (fun H locs ls hP hS hl => k_runS (As := [kI a1, kI v3]) X lk_X1_42 yo_X1_has rfl (kR_ok (by decide) (by decide)) (ct_X1_has (kCx_j X) _ _ _ _ h) (Nat.le_of_ble_eq_true rfl) dX1_least_10 hP hS hl) (fun v4 h => ?_)
    refine k_if_eq (tgt := 18) X dX1_least_13 (by decide) h (fun h => ?_) (fun h => ?_)
    · refine k_iinc X dX1_least_18 1 rfl h (fun v5 => [(1, kI v5), (0, kI a1)]) (by decide) (fun _ => rfl) (fun v5 h => ?_)
      refine k_goto (tgt := 2) X dX1_least_21 (by decide) ?_
      exact k_sub [1, 0] rfl h
    · refine k_iload_n X dX1_least_16 1 rfl ?_
      exact k_iret X hrt hlk dX1_least_17 ⟨rfl, h⟩
set_option maxHeartbeats 4000000 in
set_option maxRecDepth 100000 in
theorem ct_X1_haveAlikeParents {l : Launch} {D : va_G} {cA : Nat → ClassId} {ad sa : Nat → Nat} (hj : kInj NC ad) (t : Nat) (ht : kdC t = (0, 1, 13)) (a1 : Int) (a2 : Int) (z : Hp) (Kp : Int → Prop) (h : cal_X1_haveAlikeParents t a1 a2 z Kp) : kMet l yX1_haveAlikeParents cX1_haveAlikeParents 3 (some .boolean) 2 NC kdC D cA ad sa [.ref (ad t), kI a1, kI a2] z (kQi NC kdC D cA ad (fun v z1 => z1 = z ∧ Kp v)) := by
  unfold cal_X1_haveAlikeParents at h
  refine k_met (cc := cX1_haveAlikeParents) (own := RX1) (nL := 3) rfl rfl (Nat.le_of_ble_eq_true rfl) hj kltC (fun p e s m below meth c X hrt hlk => ?_)
  refine k_sub (lv' := [(0, .ref (ad t)), (1, kI a1), (2, kI a2)]) [0, 1, 2] rfl ?_
  refine k_aload_n X dX1_haveAlikeParents_0 0 rfl ?_
  refine k_getR (t := t + 4) X fk_X1_21 ht (by decide) rfl dX1_haveAlikeParents_1 ?_
  refine k_iload_n X dX1_haveAlikeParents_4 1 rfl ?_
  refine k_iald X (kc_1_5 ht) (Nat.le_of_ble_eq_true rfl) dX1_haveAlikeParents_5 h (fun h => ?_)
  refine k_if_eq (tgt := 64) X dX1_haveAlikeParents_6 (by decide) h (fun h => ?_) (fun h => ?_)
  · refine k_iconst X dX1_haveAlikeParents_64 ?_
    exact k_zret X hrt hlk dX1_haveAlikeParents_65 ⟨Or.inl rfl, ⟨rfl, h⟩⟩
  · refine k_aload_n X dX1_haveAlikeParents_9 0 rfl ?_
    refine k_getR (t := t + 4) X fk_X1_21 ht (by decide) rfl dX1_haveAlikeParents_10 ?_
    refine k_iload_n X dX1_haveAlikeParents_13 1 rfl ?_
    refine k_iald X (kc_1_5 ht) (Nat.le_of_ble_eq_true rfl) dX1_haveAlikeParents_14 h (fun h => ?_)
    refine k_afterP (st := []) (fun H locs ls hP hS hl => k_runS (As := [kI (z (t + 4) a1.toNat)]) X lk_X1_118 yo_X1_least rfl (kR_ok (by decide) (by decide)) (ct_X1_least (kCx_j X) _ _ _ h) (Nat.le_of_ble_eq_true rfl) dX1_haveAlikeParents_15 hP hS hl) (fun v1 h => ?_)
    refine k_aload_n X dX1_haveAlikeParents_18 0 rfl ?_
    refine k_getR (t := t + 4) X fk_X1_21 ht (by decide) rfl dX1_haveAlikeParents_19 ?_
    refine k_iload_n X dX1_haveAlikeParents_22 2 rfl ?_
    refine k_iald X (kc_1_5 ht) (Nat.le_of_ble_eq_true rfl) dX1_haveAlikeParents_23 h (fun h => ?_)
    refine k_afterP (st := [kI v1]) (fun H locs ls hP hS hl => k_runS (As := [kI (z (t + 4) a2.toNat)]) X lk_X1_118 yo_X1_least rfl (kR_ok (by decide) (by decide)) (ct_X1_least (kCx_j X) _ _ _ h) (Nat.le_of_ble_eq_true rfl) dX1_haveAlikeParents_24 hP hS hl) (fun v2 h => ?_)
    refine k_icmp_ne (tgt := 64) X dX1_haveAlikeParents_27 (by decide) h (fun h => ?_) (fun h => ?_)
    · refine k_iconst X dX1_haveAlikeParents_64 ?_
      exact k_zret X hrt hlk dX1_haveAlikeParents_65 ⟨Or.inl rfl, ⟨rfl, h⟩⟩
    · refine k_aload_n X dX1_haveAlikeParents_30 0 rfl ?_
      refine k_getR (t := t + 5) X fk_X1_24 ht (by decide) rfl dX1_haveAlikeParents_31 ?_
      refine k_iload_n X dX1_haveAlikeParents_34 1 rfl ?_
      refine k_iald X (kc_1_6 ht) (Nat.le_of_ble_eq_true rfl) dX1_haveAlikeParents_35 h (fun h => ?_)
      refine k_if_eq (tgt := 64) X dX1_haveAlikeParents_36 (by decide) h (fun h => ?_) (fun h => ?_)
      · refine k_iconst X dX1_haveAlikeParents_64 ?_
        exact k_zret X hrt hlk dX1_haveAlikeParents_65 ⟨Or.inl rfl, ⟨rfl, h⟩⟩
      · refine k_aload_n X dX1_haveAlikeParents_39 0 rfl ?_
        refine k_getR (t := t + 5) X fk_X1_24 ht (by decide) rfl dX1_haveAlikeParents_40 ?_
        refine k_iload_n X dX1_haveAlikeParents_43 1 rfl ?_
        refine k_iald X (kc_1_6 ht) (Nat.le_of_ble_eq_true rfl) dX1_haveAlikeParents_44 h (fun h => ?_)
        refine k_afterP (st := []) (fun H locs ls hP hS hl => k_runS (As := [kI (z (t + 5) a1.toNat)]) X lk_X1_118 yo_X1_least rfl (kR_ok (by decide) (by decide)) (ct_X1_least (kCx_j X) _ _ _ h) (Nat.le_of_ble_eq_true rfl) dX1_haveAlikeParents_45 hP hS hl) (fun v3 h => ?_)
        refine k_aload_n X dX1_haveAlikeParents_48 0 rfl ?_
        refine k_getR (t := t + 5) X fk_X1_24 ht (by decide) rfl dX1_haveAlikeParents_49 ?_
        refine k_iload_n X dX1_haveAlikeParents_52 2 rfl ?_
        refine k_iald X (kc_1_6 ht) (Nat.le_of_ble_eq_true rfl) dX1_haveAlikeParents_53 h (fun h => ?_)
        refine k_afterP (st := [kI v3]) (fun H locs ls hP hS hl => k_runS (As := [kI (z (t + 5) a2.toNat)]) X lk_X1_118 yo_X1_least rfl (kR_ok (by decide) (by decide)) (ct_X1_least (kCx_j X) _ _ _ h) (Nat.le_of_ble_eq_true rfl) dX1_haveAlikeParents_54 hP hS hl) (fun v4 h => ?_)
        refine k_icmp_ne (tgt := 64) X dX1_haveAlikeParents_57 (by decide) h (fun h => ?_) (fun h => ?_)
        · refine k_iconst X dX1_haveAlikeParents_64 ?_
          exact k_zret X hrt hlk dX1_haveAlikeParents_65 ⟨Or.inl rfl, ⟨rfl, h⟩⟩
        · refine k_iconst X dX1_haveAlikeParents_60 ?_
          refine k_goto (tgt := 65) X dX1_haveAlikeParents_61 (by decide) ?_
          exact k_zret X hrt hlk dX1_haveAlikeParents_65 ⟨Or.inr rfl, ⟨rfl, h⟩⟩
set_option maxHeartbeats 4000000 in
set_option maxRecDepth 100000 in
theorem ct_X1_leastOfBothSexes {l : Launch} {D : va_G} {cA : Nat → ClassId} {ad sa : Nat → Nat} (hj : kInj NC ad) (t : Nat) (ht : kdC t = (0, 1, 13)) (z : Hp) (Kp : Int → Prop) (h : cal_X1_leastOfBothSexes t z Kp) : kMet l yX1_leastOfBothSexes cX1_leastOfBothSexes 2 (some .int) 0 NC kdC D cA ad sa [.ref (ad t)] z (kQi NC kdC D cA ad (fun v z1 => z1 = z ∧ Kp v)) := by
  unfold cal_X1_leastOfBothSexes at h
  refine k_met (cc := cX1_leastOfBothSexes) (own := RX1) (nL := 2) rfl rfl (Nat.le_of_ble_eq_true rfl) hj kltC (fun p e s m below meth c X hrt hlk => ?_)
  refine k_sub (lv' := [(0, .ref (ad t))]) [0] rfl ?_
  refine k_iconst X dX1_leastOfBothSexes_0 ?_
  refine k_istore_n X dX1_leastOfBothSexes_1 h (fun v1 => [(1, kI v1), (0, .ref (ad t))]) (by decide) (fun _ => rfl) (fun v1 h => ?_)
  refine k_sub (lv' := [(0, .ref (ad t)), (1, kI v1)]) [1, 0] rfl ?_
  refine h (fun v3 => kAt p l e (kR 0) s m ([.ref (ad t)] : List Value).toArray below meth c (MQ below (kQi NC kdC D cA ad (fun v z1 => z1 = z ∧ Kp v)) ([.ref (ad t)] : List Value).toArray s 0 0 (kA NC ad)) 2 NC kdC D cA ad 2 [(0, .ref (ad t)), (1, kI v3)] [] z) (fun v3 h => ?_)
  refine k_iload_n X dX1_leastOfBothSexes_2 1 rfl ?_
  refine k_bipush X dX1_leastOfBothSexes_3 (by decide +kernel) ?_
  refine k_icmp_ge (tgt := 26) X dX1_leastOfBothSexes_5 (by decide) ⟨h.1, ⟨by decide, by decide⟩, h.2⟩ (fun h => ?_) (fun h => ?_)
  · refine k_bipush X dX1_leastOfBothSexes_26 (by decide +kernel) ?_
    exact k_iret X hrt hlk dX1_leastOfBothSexes_28 ⟨rfl, h⟩
  · refine k_aload_n X dX1_leastOfBothSexes_8 0 rfl ?_
    refine k_getR (t := t + 3) X fk_X1_18 ht (by decide) rfl dX1_leastOfBothSexes_9 ?_
    refine k_iload_n X dX1_leastOfBothSexes_12 1 rfl ?_
    refine k_iald X (kc_1_4 ht) (Nat.le_of_ble_eq_true rfl) dX1_leastOfBothSexes_13 h (fun h => ?_)
    refine k_iconst X dX1_leastOfBothSexes_14 ?_
    refine k_icmp_ne (tgt := 20) X dX1_leastOfBothSexes_15 (by decide) ⟨h.1, ⟨by decide, by decide⟩, h.2⟩ (fun h => ?_) (fun h => ?_)
    · refine k_iinc X dX1_leastOfBothSexes_20 1 rfl h (fun v4 => [(1, kI v4), (0, .ref (ad t))]) (by decide) (fun _ => rfl) (fun v4 h => ?_)
      refine k_goto (tgt := 2) X dX1_leastOfBothSexes_23 (by decide) ?_
      exact k_sub [1, 0] rfl h
    · refine k_iload_n X dX1_leastOfBothSexes_18 1 rfl ?_
      exact k_iret X hrt hlk dX1_leastOfBothSexes_19 ⟨rfl, h⟩
set_option maxHeartbeats 4000000 in
set_option maxRecDepth 100000 in
theorem ct_X1_leastOfUnlikeParents {l : Launch} {D : va_G} {cA : Nat → ClassId} {ad sa : Nat → Nat} (hj : kInj NC ad) (t : Nat) (ht : kdC t = (0, 1, 13)) (z : Hp) (Kp : Int → Prop) (h : cal_X1_leastOfUnlikeParents t z Kp) : kMet l yX1_leastOfUnlikeParents cX1_leastOfUnlikeParents 2 (some .int) 1 NC kdC D cA ad sa [.ref (ad t)] z (kQi NC kdC D cA ad (fun v z1 => z1 = z ∧ Kp v)) := by
  unfold cal_X1_leastOfUnlikeParents at h
  refine k_met (cc := cX1_leastOfUnlikeParents) (own := RX1) (nL := 2) rfl rfl (Nat.le_of_ble_eq_true rfl) hj kltC (fun p e s m below meth c X hrt hlk => ?_)
  refine k_sub (lv' := [(0, .ref (ad t))]) [0] rfl ?_
  refine k_iconst X dX1_leastOfUnlikeParents_0 ?_
  refine k_istore_n X dX1_leastOfUnlikeParents_1 h (fun v1 => [(1, kI v1), (0, .ref (ad t))]) (by decide) (fun _ => rfl) (fun v1 h => ?_)
  refine k_sub (lv' := [(0, .ref (ad t)), (1, kI v1)]) [1, 0] rfl ?_
  refine h (fun v3 => kAt p l e (kR 1) s m ([.ref (ad t)] : List Value).toArray below meth c (MQ below (kQi NC kdC D cA ad (fun v z1 => z1 = z ∧ Kp v)) ([.ref (ad t)] : List Value).toArray s 0 0 (kA NC ad)) 2 NC kdC D cA ad 2 [(0, .ref (ad t)), (1, kI v3)] [] z) (fun v3 h => ?_)
  refine k_iload_n X dX1_leastOfUnlikeParents_2 1 rfl ?_
  refine k_bipush X dX1_leastOfUnlikeParents_3 (by decide +kernel) ?_
  refine k_icmp_ge (tgt := 42) X dX1_leastOfUnlikeParents_5 (by decide) ⟨h.1, ⟨by decide, by decide⟩, h.2⟩ (fun h => ?_) (fun h => ?_)
  · refine k_bipush X dX1_leastOfUnlikeParents_42 (by decide +kernel) ?_
    exact k_iret X hrt hlk dX1_leastOfUnlikeParents_44 ⟨rfl, h⟩
  · refine k_aload_n X dX1_leastOfUnlikeParents_8 0 rfl ?_
    refine k_getR (t := t + 4) X fk_X1_21 ht (by decide) rfl dX1_leastOfUnlikeParents_9 ?_
    refine k_iload_n X dX1_leastOfUnlikeParents_12 1 rfl ?_
    refine k_iald X (kc_1_5 ht) (Nat.le_of_ble_eq_true rfl) dX1_leastOfUnlikeParents_13 h (fun h => ?_)
    refine k_afterP (st := []) (fun H locs ls hP hS hl => k_runS (As := [kI (z (t + 4) v3.toNat)]) X lk_X1_63 yo_J6_bitCount_0f7a4 rfl (kR_ok (by decide) (by decide)) (ct_J6_bitCount_0f7a4 (kCx_j X) (kCx_l X) _ _ _ h) (Nat.le_of_ble_eq_true rfl) dX1_leastOfUnlikeParents_14 hP hS hl) (fun v4 h => ?_)
    refine k_iconst X dX1_leastOfUnlikeParents_17 ?_
    refine k_icmp_gt (tgt := 34) X dX1_leastOfUnlikeParents_18 (by decide) ⟨h.1, ⟨by decide, by decide⟩, h.2⟩ (fun h => ?_) (fun h => ?_)
    · refine k_iload_n X dX1_leastOfUnlikeParents_34 1 rfl ?_
      exact k_iret X hrt hlk dX1_leastOfUnlikeParents_35 ⟨rfl, h⟩
    · refine k_aload_n X dX1_leastOfUnlikeParents_21 0 rfl ?_
      refine k_getR (t := t + 5) X fk_X1_24 ht (by decide) rfl dX1_leastOfUnlikeParents_22 ?_
      refine k_iload_n X dX1_leastOfUnlikeParents_25 1 rfl ?_
      refine k_iald X (kc_1_6 ht) (Nat.le_of_ble_eq_true rfl) dX1_leastOfUnlikeParents_26 h (fun h => ?_)
      refine k_afterP (st := []) (fun H locs ls hP hS hl => k_runS (As := [kI (z (t + 5) v3.toNat)]) X lk_X1_63 yo_J6_bitCount_0f7a4 rfl (kR_ok (by decide) (by decide)) (ct_J6_bitCount_0f7a4 (kCx_j X) (kCx_l X) _ _ _ h) (Nat.le_of_ble_eq_true rfl) dX1_leastOfUnlikeParents_27 hP hS hl) (fun v5 h => ?_)
      refine k_iconst X dX1_leastOfUnlikeParents_30 ?_
      refine k_icmp_le (tgt := 36) X dX1_leastOfUnlikeParents_31 (by decide) ⟨h.1, ⟨by decide, by decide⟩, h.2⟩ (fun h => ?_) (fun h => ?_)
      · refine k_iinc X dX1_leastOfUnlikeParents_36 1 rfl h (fun v6 => [(1, kI v6), (0, .ref (ad t))]) (by decide) (fun _ => rfl) (fun v6 h => ?_)
        refine k_goto (tgt := 2) X dX1_leastOfUnlikeParents_39 (by decide) ?_
        exact k_sub [1, 0] rfl h
      · refine k_iload_n X dX1_leastOfUnlikeParents_34 1 rfl ?_
        exact k_iret X hrt hlk dX1_leastOfUnlikeParents_35 ⟨rfl, h⟩
set_option maxHeartbeats 4000000 in
set_option maxRecDepth 100000 in
theorem ct_X1_siblings {l : Launch} {D : va_G} {cA : Nat → ClassId} {ad sa : Nat → Nat} (hj : kInj NC ad) (t : Nat) (ht : kdC t = (0, 1, 13)) (a1 : Int) (z : Hp) (Kp : Int → Prop) (h : cal_X1_siblings t a1 z Kp) : kMet l yX1_siblings cX1_siblings 4 (some .int) 0 NC kdC D cA ad sa [.ref (ad t), kI a1] z (kQi NC kdC D cA ad (fun v z1 => z1 = z ∧ Kp v)) := by
  unfold cal_X1_siblings at h
  refine k_met (cc := cX1_siblings) (own := RX1) (nL := 4) rfl rfl (Nat.le_of_ble_eq_true rfl) hj kltC (fun p e s m below meth c X hrt hlk => ?_)
  refine k_sub (lv' := [(0, .ref (ad t)), (1, kI a1)]) [0, 1] rfl ?_
  refine k_iconst X dX1_siblings_0 ?_
  refine k_istore_n X dX1_siblings_1 h (fun v1 => [(2, kI v1), (0, .ref (ad t)), (1, kI a1)]) (by decide) (fun _ => rfl) (fun v1 h => ?_)
  refine k_iconst X dX1_siblings_2 ?_
  refine k_istore_n X dX1_siblings_3 h (fun v2 => [(3, kI v2), (2, kI v1), (0, .ref (ad t)), (1, kI a1)]) (by decide) (fun _ => rfl) (fun v2 h => ?_)
  refine k_sub (lv' := [(0, .ref (ad t)), (1, kI a1), (2, kI v1), (3, kI v2)]) [2, 3, 1, 0] rfl ?_
  refine h (fun v4 v5 => kAt p l e (kR 0) s m ([.ref (ad t), kI a1] : List Value).toArray below meth c (MQ below (kQi NC kdC D cA ad (fun v z1 => z1 = z ∧ Kp v)) ([.ref (ad t), kI a1] : List Value).toArray s 0 0 (kA NC ad)) 4 NC kdC D cA ad 4 [(0, .ref (ad t)), (1, kI a1), (2, kI v4), (3, kI v5)] [] z) (fun v4 v5 h => ?_)
  refine k_iload_n X dX1_siblings_4 3 rfl ?_
  refine k_bipush X dX1_siblings_5 (by decide +kernel) ?_
  refine k_icmp_ge (tgt := 43) X dX1_siblings_7 (by decide) ⟨h.1, ⟨by decide, by decide⟩, h.2⟩ (fun h => ?_) (fun h => ?_)
  · refine k_iload_n X dX1_siblings_43 2 rfl ?_
    exact k_iret X hrt hlk dX1_siblings_44 ⟨rfl, h⟩
  · refine k_iload_n X dX1_siblings_10 3 rfl ?_
    refine k_iload_n X dX1_siblings_11 1 rfl ?_
    refine jn_use (fun J7 => ∀ (v6 : Int), J7 v6 → kAt p l e (kR 0) s m ([.ref (ad t), kI a1] : List Value).toArray below meth c (MQ below (kQi NC kdC D cA ad (fun v z1 => z1 = z ∧ Kp v)) ([.ref (ad t), kI a1] : List Value).toArray s 0 0 (kA NC ad)) 4 NC kdC D cA ad 37 [(0, .ref (ad t)), (1, kI a1), (2, kI v6), (3, kI v5)] [] z) h ?_ (fun J7 hJ7 h => ?_)
    · intro v6 h
      refine k_iinc X dX1_siblings_37 3 rfl h (fun v8 => [(3, kI v8), (0, .ref (ad t)), (1, kI a1), (2, kI v6)]) (by decide) (fun _ => rfl) (fun v8 h => ?_)
      refine k_goto (tgt := 4) X dX1_siblings_40 (by decide) ?_
      exact k_sub [1, 2, 3, 0] rfl h
    · refine k_icmp_eq (tgt := 37) X dX1_siblings_12 (by decide) h (fun h => ?_) (fun h => ?_)
      · exact k_sub [0, 1, 2, 3] rfl (hJ7 _ h)
      · refine k_aload_n X dX1_siblings_15 0 rfl ?_
        refine k_getR (t := t + 6) X fk_X1_27 ht (by decide) rfl dX1_siblings_16 ?_
        refine k_iload_n X dX1_siblings_19 3 rfl ?_
        refine k_iald X (kc_1_7 ht) (Nat.le_of_ble_eq_true rfl) dX1_siblings_20 h (fun h => ?_)
        refine k_aload_n X dX1_siblings_21 0 rfl ?_
        refine k_getR (t := t + 6) X fk_X1_27 ht (by decide) rfl dX1_siblings_22 ?_
        refine k_iload_n X dX1_siblings_25 1 rfl ?_
        refine k_iald X (kc_1_7 ht) (Nat.le_of_ble_eq_true rfl) dX1_siblings_26 h (fun h => ?_)
        refine k_iand X dX1_siblings_27 ?_
        refine k_if_eq (tgt := 37) X dX1_siblings_28 (by decide) h (fun h => ?_) (fun h => ?_)
        · exact k_sub [0, 1, 2, 3] rfl (hJ7 _ h)
        · refine k_iload_n X dX1_siblings_31 2 rfl ?_
          refine k_iconst X dX1_siblings_32 ?_
          refine k_iload_n X dX1_siblings_33 3 rfl ?_
          refine k_ishl X dX1_siblings_34 ?_
          refine k_ior X dX1_siblings_35 ?_
          refine k_istore_n X dX1_siblings_36 h (fun v9 => [(2, kI v9), (0, .ref (ad t)), (1, kI a1), (3, kI v5)]) (by decide) (fun _ => rfl) (fun v9 h => ?_)
          exact k_sub [1, 2, 0, 3] rfl (hJ7 _ h)
set_option maxHeartbeats 4000000 in
set_option maxRecDepth 100000 in
theorem ct_X1_tell {l : Launch} {D : va_G} {cA : Nat → ClassId} {ad sa : Nat → Nat} (hj : kInj NC ad) (t : Nat) (ht : kdC t = (0, 1, 13)) (a1 : Int) (a2 : Int) (z : Hp) (Kp : Int → Prop) (h : cal_X1_tell t a1 a2 z Kp) : kMet l yX1_tell cX1_tell 3 (some .int) 3 NC kdC D cA ad sa [.ref (ad t), kI a1, kI a2] z (kQi NC kdC D cA ad (fun v z1 => z1 = z ∧ Kp v)) := by
  unfold cal_X1_tell at h
  refine k_met (cc := cX1_tell) (own := RX1) (nL := 3) rfl rfl (Nat.le_of_ble_eq_true rfl) hj kltC (fun p e s m below meth c X hrt hlk => ?_)
  refine k_sub (lv' := [(0, .ref (ad t)), (1, kI a1), (2, kI a2)]) [0, 1, 2] rfl ?_
  refine k_iload_n X dX1_tell_0 2 rfl ?_
  obtain ⟨hr5, h⟩ := h
  by_cases q6 : a2 = 0
  · rw [if_pos q6] at h
    refine k_swin (tgt := 48) X dX1_tell_1 hr5 q6 (by decide) (by decide) rfl (by decide) ?_
    refine k_iload_n X dX1_tell_48 1 rfl ?_
    exact k_iret X hrt hlk dX1_tell_49 ⟨rfl, h⟩
  rw [if_neg q6] at h
  by_cases q7 : a2 = 1
  · rw [if_pos q7] at h
    refine k_swin (tgt := 50) X dX1_tell_1 hr5 q7 (by decide) (by decide) rfl (by decide) ?_
    refine k_aload_n X dX1_tell_50 0 rfl ?_
    refine k_getR (t := t + 2) X fk_X1_15 ht (by decide) rfl dX1_tell_51 ?_
    refine k_iload_n X dX1_tell_54 1 rfl ?_
    refine k_iald X (kc_1_3 ht) (Nat.le_of_ble_eq_true rfl) dX1_tell_55 h (fun h => ?_)
    exact k_iret X hrt hlk dX1_tell_56 ⟨rfl, h⟩
  rw [if_neg q7] at h
  by_cases q8 : a2 = 2
  · rw [if_pos q8] at h
    refine k_swin (tgt := 57) X dX1_tell_1 hr5 q8 (by decide) (by decide) rfl (by decide) ?_
    refine k_aload_n X dX1_tell_57 0 rfl ?_
    refine k_getR (t := t + 3) X fk_X1_18 ht (by decide) rfl dX1_tell_58 ?_
    refine k_iload_n X dX1_tell_61 1 rfl ?_
    refine k_iald X (kc_1_4 ht) (Nat.le_of_ble_eq_true rfl) dX1_tell_62 h (fun h => ?_)
    exact k_iret X hrt hlk dX1_tell_63 ⟨rfl, h⟩
  rw [if_neg q8] at h
  by_cases q9 : a2 = 3
  · rw [if_pos q9] at h
    refine k_swin (tgt := 64) X dX1_tell_1 hr5 q9 (by decide) (by decide) rfl (by decide) ?_
    refine k_aload_n X dX1_tell_64 0 rfl ?_
    refine k_getR (t := t + 4) X fk_X1_21 ht (by decide) rfl dX1_tell_65 ?_
    refine k_iload_n X dX1_tell_68 1 rfl ?_
    refine k_iald X (kc_1_5 ht) (Nat.le_of_ble_eq_true rfl) dX1_tell_69 h (fun h => ?_)
    refine k_afterP (st := []) (fun H locs ls hP hS hl => k_runS (As := [kI (z (t + 4) a1.toNat)]) X lk_X1_118 yo_X1_least rfl (kR_ok (by decide) (by decide)) (ct_X1_least (kCx_j X) _ _ _ h) (Nat.le_of_ble_eq_true rfl) dX1_tell_70 hP hS hl) (fun v1 h => ?_)
    exact k_iret X hrt hlk dX1_tell_73 ⟨rfl, h⟩
  rw [if_neg q9] at h
  by_cases q10 : a2 = 4
  · rw [if_pos q10] at h
    refine k_swin (tgt := 74) X dX1_tell_1 hr5 q10 (by decide) (by decide) rfl (by decide) ?_
    refine k_aload_n X dX1_tell_74 0 rfl ?_
    refine k_getR (t := t + 5) X fk_X1_24 ht (by decide) rfl dX1_tell_75 ?_
    refine k_iload_n X dX1_tell_78 1 rfl ?_
    refine k_iald X (kc_1_6 ht) (Nat.le_of_ble_eq_true rfl) dX1_tell_79 h (fun h => ?_)
    refine k_afterP (st := []) (fun H locs ls hP hS hl => k_runS (As := [kI (z (t + 5) a1.toNat)]) X lk_X1_118 yo_X1_least rfl (kR_ok (by decide) (by decide)) (ct_X1_least (kCx_j X) _ _ _ h) (Nat.le_of_ble_eq_true rfl) dX1_tell_80 hP hS hl) (fun v2 h => ?_)
    exact k_iret X hrt hlk dX1_tell_83 ⟨rfl, h⟩
  rw [if_neg q10] at h
  by_cases q11 : a2 = 5
  · rw [if_pos q11] at h
    refine k_swin (tgt := 84) X dX1_tell_1 hr5 q11 (by decide) (by decide) rfl (by decide) ?_
    refine k_aload_n X dX1_tell_84 0 rfl ?_
    refine k_iload_n X dX1_tell_85 1 rfl ?_
    refine k_afterP (st := []) (fun H locs ls hP hS hl => k_runV (As := [kI a1]) X lk_X1_121 rfl yo_X1_children rfl (kR_ok (by decide) (by decide)) (ct_X1_children (kCx_j X) t ht _ _ _ h) ht rfl (Nat.le_of_ble_eq_true rfl) dX1_tell_86 hP hS hl) (fun v3 h => ?_)
    refine k_afterP (st := []) (fun H locs ls hP hS hl => k_runS (As := [kI v3]) X lk_X1_63 yo_J6_bitCount_0f7a4 rfl (kR_ok (by decide) (by decide)) (ct_J6_bitCount_0f7a4 (kCx_j X) (kCx_l X) _ _ _ h) (Nat.le_of_ble_eq_true rfl) dX1_tell_89 hP hS hl) (fun v4 h => ?_)
    exact k_iret X hrt hlk dX1_tell_92 ⟨rfl, h⟩
  rw [if_neg q11] at h
  by_cases q12 : a2 = 6
  · rw [if_pos q12] at h
    refine k_swin (tgt := 93) X dX1_tell_1 hr5 q12 (by decide) (by decide) rfl (by decide) ?_
    refine k_aload_n X dX1_tell_93 0 rfl ?_
    refine k_getR (t := t + 9) X fk_X1_36 ht (by decide) rfl dX1_tell_94 ?_
    refine k_iload_n X dX1_tell_97 1 rfl ?_
    refine k_iald X (kc_1_10 ht) (Nat.le_of_ble_eq_true rfl) dX1_tell_98 h (fun h => ?_)
    exact k_iret X hrt hlk dX1_tell_99 ⟨rfl, h⟩
  rw [if_neg q12] at h
  by_cases q13 : a2 = 7
  · rw [if_pos q13] at h
    refine k_swin (tgt := 100) X dX1_tell_1 hr5 q13 (by decide) (by decide) rfl (by decide) ?_
    refine k_aload_n X dX1_tell_100 0 rfl ?_
    refine k_getI X fk_X1_111 ht rfl dX1_tell_101 ?_
    refine k_if_eq (tgt := 112) X dX1_tell_104 (by decide) h (fun h => ?_) (fun h => ?_)
    · refine k_aload_n X dX1_tell_112 0 rfl ?_
      refine k_getR (t := t + 10) X fk_X1_39 ht (by decide) rfl dX1_tell_113 ?_
      refine k_iload_n X dX1_tell_116 1 rfl ?_
      refine k_iald X (kc_1_11 ht) (Nat.le_of_ble_eq_true rfl) dX1_tell_117 h (fun h => ?_)
      exact k_iret X hrt hlk dX1_tell_118 ⟨rfl, h⟩
    · refine k_bipush X dX1_tell_107 (by decide +kernel) ?_
      refine k_goto (tgt := 118) X dX1_tell_109 (by decide) ?_
      exact k_iret X hrt hlk dX1_tell_118 ⟨rfl, h⟩
  rw [if_neg q13] at h
  refine k_swout (tgt := 119) X dX1_tell_1 hr5 (by omega) (by decide) ?_
  refine k_iconst X dX1_tell_119 ?_
  exact k_iret X hrt hlk dX1_tell_120 ⟨rfl, h⟩
set_option maxHeartbeats 4000000 in
set_option maxRecDepth 100000 in
theorem ct_X2_begin {l : Launch} {D : va_G} {cA : Nat → ClassId} {ad sa : Nat → Nat} (hj : kInj NC ad) (t : Nat) (ht : kdC t = (0, 2, 2)) (a1 : Int) (a2 : Int) (z : Hp) (Kp : Hp → Prop) (h : cal_X2_begin t a1 a2 z Kp) : kMet l yX2_begin cX2_begin 4 none 0 NC kdC D cA ad sa [.ref (ad t), kI a1, kI a2] z (kQv NC kdC D cA ad Kp) := by
  unfold cal_X2_begin at h
  refine k_met (cc := cX2_begin) (own := RX2) (nL := 4) rfl rfl (Nat.le_of_ble_eq_true rfl) hj kltC (fun p e s m below meth c X hrt hlk => ?_)
  refine k_sub (lv' := [(0, .ref (ad t)), (1, kI a1), (2, kI a2)]) [0, 1, 2] rfl ?_
  refine k_aload_n X dX2_begin_0 0 rfl ?_
  refine k_getR (t := t + 6) X fk_X2_14 ht (by decide) rfl dX2_begin_1 ?_
  refine k_iload_n X dX2_begin_4 1 rfl ?_
  refine k_iload_n X dX2_begin_5 2 rfl ?_
  refine k_iast X (kc_2_1 ht) (Nat.le_of_ble_eq_true rfl) dX2_begin_6 h (fun h => k_nameH h (fun z1 h => ?_))
  refine k_iconst X dX2_begin_7 ?_
  refine k_istore_n X dX2_begin_8 h (fun v2 => [(3, kI v2), (0, .ref (ad t)), (1, kI a1), (2, kI a2)]) (by decide) (fun _ => rfl) (fun v2 h => ?_)
  refine k_sub (lv' := [(0, .ref (ad t)), (1, kI a1), (3, kI v2)]) [1, 2, 0] rfl ?_
  refine h (fun v4 z5 => kAt p l e (kR 0) s m ([.ref (ad t), kI a1, kI a2] : List Value).toArray below meth c (MQ below (kQv NC kdC D cA ad Kp) ([.ref (ad t), kI a1, kI a2] : List Value).toArray s 0 0 (kA NC ad)) 4 NC kdC D cA ad 9 [(0, .ref (ad t)), (1, kI a1), (3, kI v4)] [] z5) (fun v4 z5 h => ?_)
  refine k_iload_n X dX2_begin_9 2 rfl ?_
  refine k_bipush X dX2_begin_10 (by decide +kernel) ?_
  refine k_icmp_ge (tgt := 30) X dX2_begin_12 (by decide) ⟨h.1, ⟨by decide, by decide⟩, h.2⟩ (fun h => ?_) (fun h => ?_)
  · exact k_vret X hrt hlk dX2_begin_30 h
  · refine k_aload_n X dX2_begin_15 0 rfl ?_
    refine k_getR (t := t + 1) X fk_X2_11 ht (by decide) rfl dX2_begin_16 ?_
    refine k_iload_n X dX2_begin_19 1 rfl ?_
    have hb6 := h.1
    refine k_aald X (kc_2_0 ht) rfl rfl (Nat.le_of_ble_eq_true rfl) dX2_begin_20 h (fun h => ?_)
    refine k_iload_n X dX2_begin_21 2 rfl ?_
    refine k_iconst X dX2_begin_22 ?_
    refine k_iast X (kc_r3 (kc_2_0 ht) (ki_lt hb6)) (Nat.le_of_ble_eq_true rfl) dX2_begin_23 h (fun h => k_nameH h (fun z7 h => ?_))
    refine k_iinc X dX2_begin_24 2 rfl h (fun v8 => [(3, kI v8), (0, .ref (ad t)), (1, kI a1)]) (by decide) (fun _ => rfl) (fun v8 h => ?_)
    refine k_goto (tgt := 9) X dX2_begin_27 (by decide) ?_
    exact k_sub [1, 2, 0] rfl h
set_option maxHeartbeats 4000000 in
set_option maxRecDepth 100000 in
theorem ct_X2_hasPlace {l : Launch} {D : va_G} {cA : Nat → ClassId} {ad sa : Nat → Nat} (hj : kInj NC ad) (t : Nat) (ht : kdC t = (0, 2, 2)) (a1 : Int) (a2 : Int) (a3 : Int) (z : Hp) (Kp : Int → Prop) (h : cal_X2_hasPlace t a1 a2 a3 z Kp) : kMet l yX2_hasPlace cX2_hasPlace 4 (some .boolean) 0 NC kdC D cA ad sa [.ref (ad t), kI a1, kI a2, kI a3] z (kQi NC kdC D cA ad (fun v z1 => z1 = z ∧ Kp v)) := by
  unfold cal_X2_hasPlace at h
  refine k_met (cc := cX2_hasPlace) (own := RX2) (nL := 4) rfl rfl (Nat.le_of_ble_eq_true rfl) hj kltC (fun p e s m below meth c X hrt hlk => ?_)
  refine k_sub (lv' := [(0, .ref (ad t)), (1, kI a1), (2, kI a2), (3, kI a3)]) [0, 1, 2, 3] rfl ?_
  refine k_iload_n X dX2_hasPlace_0 2 rfl ?_
  refine k_if_lt (tgt := 20) X dX2_hasPlace_1 (by decide) h (fun h => ?_) (fun h => ?_)
  · refine k_iconst X dX2_hasPlace_20 ?_
    exact k_zret X hrt hlk dX2_hasPlace_21 ⟨Or.inl rfl, ⟨rfl, h⟩⟩
  · refine k_iload_n X dX2_hasPlace_4 2 rfl ?_
    refine k_aload_n X dX2_hasPlace_5 0 rfl ?_
    refine k_getR (t := t + 6) X fk_X2_14 ht (by decide) rfl dX2_hasPlace_6 ?_
    refine k_iload_n X dX2_hasPlace_9 1 rfl ?_
    refine k_iald X (kc_2_1 ht) (Nat.le_of_ble_eq_true rfl) dX2_hasPlace_10 h (fun h => ?_)
    refine k_iload_n X dX2_hasPlace_11 3 rfl ?_
    refine k_isub X dX2_hasPlace_12 ?_
    refine k_icmp_ge (tgt := 20) X dX2_hasPlace_13 (by decide) h (fun h => ?_) (fun h => ?_)
    · refine k_iconst X dX2_hasPlace_20 ?_
      exact k_zret X hrt hlk dX2_hasPlace_21 ⟨Or.inl rfl, ⟨rfl, h⟩⟩
    · refine k_iconst X dX2_hasPlace_16 ?_
      refine k_goto (tgt := 21) X dX2_hasPlace_17 (by decide) ?_
      exact k_zret X hrt hlk dX2_hasPlace_21 ⟨Or.inr rfl, ⟨rfl, h⟩⟩
set_option maxHeartbeats 4000000 in
set_option maxRecDepth 100000 in
theorem ct_X2_isList {l : Launch} {D : va_G} {cA : Nat → ClassId} {ad sa : Nat → Nat} (hj : kInj NC ad) (t : Nat) (ht : kdC t = (0, 2, 2)) (a1 : Int) (z : Hp) (Kp : Int → Prop) (h : cal_X2_isList t a1 z Kp) : kMet l yX2_isList cX2_isList 2 (some .boolean) 0 NC kdC D cA ad sa [.ref (ad t), kI a1] z (kQi NC kdC D cA ad (fun v z1 => z1 = z ∧ Kp v)) := by
  unfold cal_X2_isList at h
  refine k_met (cc := cX2_isList) (own := RX2) (nL := 2) rfl rfl (Nat.le_of_ble_eq_true rfl) hj kltC (fun p e s m below meth c X hrt hlk => ?_)
  refine k_sub (lv' := [(0, .ref (ad t)), (1, kI a1)]) [0, 1] rfl ?_
  refine k_iload_n X dX2_isList_0 1 rfl ?_
  refine k_if_lt (tgt := 13) X dX2_isList_1 (by decide) h (fun h => ?_) (fun h => ?_)
  · refine k_iconst X dX2_isList_13 ?_
    exact k_zret X hrt hlk dX2_isList_14 ⟨Or.inl rfl, ⟨rfl, h⟩⟩
  · refine k_iload_n X dX2_isList_4 1 rfl ?_
    refine k_iconst X dX2_isList_5 ?_
    refine k_icmp_ge (tgt := 13) X dX2_isList_6 (by decide) ⟨h.1, ⟨by decide, by decide⟩, h.2⟩ (fun h => ?_) (fun h => ?_)
    · refine k_iconst X dX2_isList_13 ?_
      exact k_zret X hrt hlk dX2_isList_14 ⟨Or.inl rfl, ⟨rfl, h⟩⟩
    · refine k_iconst X dX2_isList_9 ?_
      refine k_goto (tgt := 14) X dX2_isList_10 (by decide) ?_
      exact k_zret X hrt hlk dX2_isList_14 ⟨Or.inr rfl, ⟨rfl, h⟩⟩
set_option maxHeartbeats 4000000 in
set_option maxRecDepth 100000 in
theorem ct_X3_addLess {l : Launch} {D : va_G} {cA : Nat → ClassId} {ad sa : Nat → Nat} (hj : kInj NC ad) (t : Nat) (ht : kdC t = (0, 3, 12)) (a1 : Int) (a2 : Int) (a3 : Int) (a4 : Int) (a5 : Int) (z : Hp) (Kp : Hp → Prop) (h : cal_X3_addLess t a1 a2 a3 a4 a5 z Kp) : kMet l yX3_addLess cX3_addLess 6 none 0 NC kdC D cA ad sa [.ref (ad t), kI a1, kI a2, kI a3, kI a4, kI a5] z (kQv NC kdC D cA ad Kp) := by
  unfold cal_X3_addLess at h
  refine k_met (cc := cX3_addLess) (own := RX3) (nL := 6) rfl rfl (Nat.le_of_ble_eq_true rfl) hj kltC (fun p e s m below meth c X hrt hlk => ?_)
  refine k_sub (lv' := [(0, .ref (ad t)), (1, kI a1), (2, kI a2), (3, kI a3), (4, kI a4), (5, kI a5)]) [0, 1, 2, 3, 4, 5] rfl ?_
  refine k_aload_n X dX3_addLess_0 0 rfl ?_
  refine k_getI X fk_X3_36 ht rfl dX3_addLess_1 ?_
  refine k_sipush X dX3_addLess_4 (by decide +kernel) ?_
  refine k_icmp_ge (tgt := 72) X dX3_addLess_7 (by decide) ⟨h.1, ⟨by decide, by decide⟩, h.2⟩ (fun h => ?_) (fun h => ?_)
  · exact k_vret X hrt hlk dX3_addLess_72 h
  · refine k_aload_n X dX3_addLess_10 0 rfl ?_
    refine k_getR (t := t + 4) X fk_X3_21 ht (by decide) rfl dX3_addLess_11 ?_
    refine k_aload_n X dX3_addLess_14 0 rfl ?_
    refine k_getI X fk_X3_36 ht rfl dX3_addLess_15 ?_
    refine k_iload_n X dX3_addLess_18 1 rfl ?_
    refine k_iast X (kc_3_3 ht) (Nat.le_of_ble_eq_true rfl) dX3_addLess_19 h (fun h => k_nameH h (fun z1 h => ?_))
    refine k_aload_n X dX3_addLess_20 0 rfl ?_
    refine k_getR (t := t + 5) X fk_X3_24 ht (by decide) rfl dX3_addLess_21 ?_
    refine k_aload_n X dX3_addLess_24 0 rfl ?_
    refine k_getI X fk_X3_36 ht rfl dX3_addLess_25 ?_
    refine k_iload_n X dX3_addLess_28 2 rfl ?_
    refine k_iast X (kc_3_4 ht) (Nat.le_of_ble_eq_true rfl) dX3_addLess_29 h (fun h => k_nameH h (fun z2 h => ?_))
    refine k_aload_n X dX3_addLess_30 0 rfl ?_
    refine k_getR (t := t + 6) X fk_X3_27 ht (by decide) rfl dX3_addLess_31 ?_
    refine k_aload_n X dX3_addLess_34 0 rfl ?_
    refine k_getI X fk_X3_36 ht rfl dX3_addLess_35 ?_
    refine k_iload_n X dX3_addLess_38 3 rfl ?_
    refine k_iast X (kc_3_5 ht) (Nat.le_of_ble_eq_true rfl) dX3_addLess_39 h (fun h => k_nameH h (fun z3 h => ?_))
    refine k_aload_n X dX3_addLess_40 0 rfl ?_
    refine k_getR (t := t + 7) X fk_X3_30 ht (by decide) rfl dX3_addLess_41 ?_
    refine k_aload_n X dX3_addLess_44 0 rfl ?_
    refine k_getI X fk_X3_36 ht rfl dX3_addLess_45 ?_
    refine k_iload X dX3_addLess_48 4 rfl ?_
    refine k_iast X (kc_3_6 ht) (Nat.le_of_ble_eq_true rfl) dX3_addLess_50 h (fun h => k_nameH h (fun z4 h => ?_))
    refine k_aload_n X dX3_addLess_51 0 rfl ?_
    refine k_getR (t := t + 8) X fk_X3_33 ht (by decide) rfl dX3_addLess_52 ?_
    refine k_aload_n X dX3_addLess_55 0 rfl ?_
    refine k_getI X fk_X3_36 ht rfl dX3_addLess_56 ?_
    refine k_iload X dX3_addLess_59 5 rfl ?_
    refine k_iast X (kc_3_7 ht) (Nat.le_of_ble_eq_true rfl) dX3_addLess_61 h (fun h => k_nameH h (fun z5 h => ?_))
    refine k_aload_n X dX3_addLess_62 0 rfl ?_
    refine k_dup X dX3_addLess_63 rfl ?_
    refine k_getI X fk_X3_36 ht rfl dX3_addLess_64 ?_
    refine k_iconst X dX3_addLess_67 ?_
    refine k_iadd X dX3_addLess_68 ?_
    refine k_putI X fp_X3_36 ht rfl dX3_addLess_69 (k_nameH h (fun z6 h => ?_))
    exact k_vret X hrt hlk dX3_addLess_72 h
set_option maxHeartbeats 4000000 in
set_option maxRecDepth 100000 in
theorem ct_X3_addIn {l : Launch} {D : va_G} {cA : Nat → ClassId} {ad sa : Nat → Nat} (hj : kInj NC ad) (t : Nat) (ht : kdC t = (0, 3, 12)) (a1 : Int) (a2 : Int) (a3 : Int) (a4 : Int) (z : Hp) (Kp : Hp → Prop) (h : cal_X3_addIn t a1 a2 a3 a4 z Kp) : kMet l yX3_addIn cX3_addIn 5 none 1 NC kdC D cA ad sa [.ref (ad t), kI a1, kI a2, kI a3, kI a4] z (kQv NC kdC D cA ad Kp) := by
  unfold cal_X3_addIn at h
  refine k_met (cc := cX3_addIn) (own := RX3) (nL := 5) rfl rfl (Nat.le_of_ble_eq_true rfl) hj kltC (fun p e s m below meth c X hrt hlk => ?_)
  refine k_sub (lv' := [(0, .ref (ad t)), (1, kI a1), (2, kI a2), (3, kI a3), (4, kI a4)]) [0, 1, 2, 3, 4] rfl ?_
  refine k_aload_n X dX3_addIn_0 0 rfl ?_
  refine k_iload_n X dX3_addIn_1 1 rfl ?_
  refine k_iconst X dX3_addIn_2 ?_
  refine k_iload_n X dX3_addIn_3 2 rfl ?_
  refine k_iload_n X dX3_addIn_4 3 rfl ?_
  refine k_iload X dX3_addIn_5 4 rfl ?_
  refine k_afterV (st := []) (fun H locs ls hP hS hl => k_runV (As := [kI a1, kI (-1), kI a2, kI a3, kI a4]) X lk_X3_53 rfl yo_X3_addLess rfl (kR_ok (by decide) (by decide)) (ct_X3_addLess (kCx_j X) t ht _ _ _ _ _ _ _ h) ht rfl (Nat.le_of_ble_eq_true rfl) dX3_addIn_7 hP hS hl) (fun z1 h => ?_)
  exact k_vret X hrt hlk dX3_addIn_10 h
set_option maxHeartbeats 4000000 in
set_option maxRecDepth 100000 in
theorem ct_X3_born {l : Launch} {D : va_G} {cA : Nat → ClassId} {ad sa : Nat → Nat} (hj : kInj NC ad) (a1 : Int) (z : Hp) (Kp : Int → Prop) (h : cal_X3_born a1 z Kp) : kMet l yX3_born cX3_born 1 (some .int) 0 NC kdC D cA ad sa [kI a1] z (kQi NC kdC D cA ad (fun v z1 => z1 = z ∧ Kp v)) := by
  unfold cal_X3_born at h
  refine k_met (cc := cX3_born) (own := RX3) (nL := 1) rfl rfl (Nat.le_of_ble_eq_true rfl) hj kltC (fun p e s m below meth c X hrt hlk => ?_)
  refine k_sub (lv' := [(0, kI a1)]) [0] rfl ?_
  refine k_iconst X dX3_born_0 ?_
  refine k_iload_n X dX3_born_1 0 rfl ?_
  refine k_imul X dX3_born_2 ?_
  exact k_iret X hrt hlk dX3_born_3 ⟨rfl, h⟩
set_option maxHeartbeats 4000000 in
set_option maxRecDepth 100000 in
theorem ct_X3_died {l : Launch} {D : va_G} {cA : Nat → ClassId} {ad sa : Nat → Nat} (hj : kInj NC ad) (a1 : Int) (z : Hp) (Kp : Int → Prop) (h : cal_X3_died a1 z Kp) : kMet l yX3_died cX3_died 1 (some .int) 0 NC kdC D cA ad sa [kI a1] z (kQi NC kdC D cA ad (fun v z1 => z1 = z ∧ Kp v)) := by
  unfold cal_X3_died at h
  refine k_met (cc := cX3_died) (own := RX3) (nL := 1) rfl rfl (Nat.le_of_ble_eq_true rfl) hj kltC (fun p e s m below meth c X hrt hlk => ?_)
  refine k_sub (lv' := [(0, kI a1)]) [0] rfl ?_
  refine k_iconst X dX3_died_0 ?_
  refine k_iload_n X dX3_died_1 0 rfl ?_
  refine k_imul X dX3_died_2 ?_
  refine k_iconst X dX3_died_3 ?_
  refine k_iadd X dX3_died_4 ?_
  exact k_iret X hrt hlk dX3_died_5 ⟨rfl, h⟩
set_option maxHeartbeats 4000000 in
set_option maxRecDepth 100000 in
theorem ct_X3_addMarriedOne {l : Launch} {D : va_G} {cA : Nat → ClassId} {ad sa : Nat → Nat} (hj : kInj NC ad) (t : Nat) (ht : kdC t = (0, 3, 12)) (a1 : Int) (a2 : Int) (z : Hp) (Kp : Hp → Prop) (h : cal_X3_addMarriedOne t a1 a2 z Kp) : kMet l yX3_addMarriedOne cX3_addMarriedOne 4 none 1 NC kdC D cA ad sa [.ref (ad t), kI a1, kI a2] z (kQv NC kdC D cA ad Kp) := by
  unfold cal_X3_addMarriedOne at h
  refine k_met (cc := cX3_addMarriedOne) (own := RX3) (nL := 4) rfl rfl (Nat.le_of_ble_eq_true rfl) hj kltC (fun p e s m below meth c X hrt hlk => ?_)
  refine k_sub (lv' := [(0, .ref (ad t)), (1, kI a1), (2, kI a2)]) [0, 1, 2] rfl ?_
  refine k_bipush X dX3_addMarriedOne_0 (by decide +kernel) ?_
  refine k_iload_n X dX3_addMarriedOne_2 2 rfl ?_
  refine k_iadd X dX3_addMarriedOne_3 ?_
  refine k_istore_n X dX3_addMarriedOne_4 h (fun v1 => [(3, kI v1), (0, .ref (ad t)), (1, kI a1), (2, kI a2)]) (by decide) (fun _ => rfl) (fun v1 h => ?_)
  refine k_aload_n X dX3_addMarriedOne_5 1 rfl ?_
  refine k_iload_n X dX3_addMarriedOne_6 0 rfl ?_
  refine k_iload_n X dX3_addMarriedOne_7 2 rfl ?_
  refine k_afterP (st := [kI v1, .ref (ad t)]) (fun H locs ls hP hS hl => k_runS (As := [kI a1]) X lk_X3_50 yo_X3_born rfl (kR_ok (by decide) (by decide)) (ct_X3_born (kCx_j X) _ _ _ h) (Nat.le_of_ble_eq_true rfl) dX3_addMarriedOne_8 hP hS hl) (fun v2 h => ?_)
  refine k_bipush X dX3_addMarriedOne_11 (by decide +kernel) ?_
  refine k_bipush X dX3_addMarriedOne_13 (by decide +kernel) ?_
  refine k_iload_n X dX3_addMarriedOne_15 3 rfl ?_
  refine k_afterV (st := []) (fun H locs ls hP hS hl => k_runV (As := [kI v1, kI v2, kI 14, kI 110, kI a2]) X lk_X3_53 rfl yo_X3_addLess rfl (kR_ok (by decide) (by decide)) (ct_X3_addLess (kCx_j X) t ht _ _ _ _ _ _ _ h) ht rfl (Nat.le_of_ble_eq_true rfl) dX3_addMarriedOne_16 hP hS hl) (fun z3 h => ?_)
  refine k_aload_n X dX3_addMarriedOne_19 1 rfl ?_
  refine k_iload_n X dX3_addMarriedOne_20 2 rfl ?_
  refine k_afterP (st := [.ref (ad t)]) (fun H locs ls hP hS hl => k_runS (As := [kI a1]) X lk_X3_46 yo_X3_died rfl (kR_ok (by decide) (by decide)) (ct_X3_died (kCx_j X) _ _ _ h) (Nat.le_of_ble_eq_true rfl) dX3_addMarriedOne_21 hP hS hl) (fun v4 h => ?_)
  refine k_iload_n X dX3_addMarriedOne_24 0 rfl ?_
  refine k_iconst X dX3_addMarriedOne_25 ?_
  refine k_ldc X 100000 mw520 dX3_addMarriedOne_26 ?_
  refine k_iload_n X dX3_addMarriedOne_28 3 rfl ?_
  refine k_afterV (st := []) (fun H locs ls hP hS hl => k_runV (As := [kI v4, kI v1, kI 0, kI 100000, kI a2]) X lk_X3_53 rfl yo_X3_addLess rfl (kR_ok (by decide) (by decide)) (ct_X3_addLess (kCx_j X) t ht _ _ _ _ _ _ _ h) ht rfl (Nat.le_of_ble_eq_true rfl) dX3_addMarriedOne_29 hP hS hl) (fun z5 h => ?_)
  exact k_vret X hrt hlk dX3_addMarriedOne_32 h
set_option maxHeartbeats 4000000 in
set_option maxRecDepth 100000 in
theorem ct_X3_change {l : Launch} {D : va_G} {cA : Nat → ClassId} {ad sa : Nat → Nat} (hj : kInj NC ad) (t : Nat) (ht : kdC t = (0, 3, 12)) (a1 : Int) (a2 : Int) (a3 : Int) (a4 : Int) (z : Hp) (Kp : Hp → Prop) (h : cal_X3_change t a1 a2 a3 a4 z Kp) : kMet l yX3_change cX3_change 6 none 0 NC kdC D cA ad sa [.ref (ad t), kI a1, kI a2, kI a3, kI a4] z (kQv NC kdC D cA ad Kp) := by
  unfold cal_X3_change at h
  refine k_met (cc := cX3_change) (own := RX3) (nL := 6) rfl rfl (Nat.le_of_ble_eq_true rfl) hj kltC (fun p e s m below meth c X hrt hlk => ?_)
  refine k_sub (lv' := [(0, .ref (ad t)), (1, kI a1), (2, kI a2), (3, kI a3), (4, kI a4)]) [0, 1, 2, 3, 4] rfl ?_
  refine k_aload_n X dX3_change_0 0 rfl ?_
  refine k_getR (t := t + 1) X fk_X3_9 ht (by decide) rfl dX3_change_1 ?_
  refine k_iload_n X dX3_change_4 1 rfl ?_
  refine k_iload_n X dX3_change_5 2 rfl ?_
  refine k_iast X (kc_3_0 ht) (Nat.le_of_ble_eq_true rfl) dX3_change_6 h (fun h => k_nameH h (fun z1 h => ?_))
  refine k_aload_n X dX3_change_7 0 rfl ?_
  refine k_getR (t := t + 2) X fk_X3_15 ht (by decide) rfl dX3_change_8 ?_
  refine k_iload_n X dX3_change_11 1 rfl ?_
  refine k_aload_n X dX3_change_12 0 rfl ?_
  refine k_getR (t := t + 8) X fk_X3_33 ht (by decide) rfl dX3_change_13 ?_
  refine k_iload_n X dX3_change_16 3 rfl ?_
  refine k_iald X (kc_3_7 ht) (Nat.le_of_ble_eq_true rfl) dX3_change_17 h (fun h => ?_)
  refine k_iast X (kc_3_1 ht) (Nat.le_of_ble_eq_true rfl) dX3_change_18 h (fun h => k_nameH h (fun z2 h => ?_))
  refine k_aload_n X dX3_change_19 0 rfl ?_
  refine k_getR (t := t + 3) X fk_X3_18 ht (by decide) rfl dX3_change_20 ?_
  refine k_iload_n X dX3_change_23 1 rfl ?_
  refine k_iload X dX3_change_24 4 rfl ?_
  refine k_iast X (kc_3_2 ht) (Nat.le_of_ble_eq_true rfl) dX3_change_26 h (fun h => k_nameH h (fun z3 h => ?_))
  refine k_aload_n X dX3_change_27 0 rfl ?_
  refine k_iconst X dX3_change_28 ?_
  refine k_putZ X fp_X3_89 ht rfl (Or.inr rfl) dX3_change_29 (k_nameH h (fun z4 h => ?_))
  refine k_iload_n X dX3_change_32 1 rfl ?_
  refine k_iconst X dX3_change_33 ?_
  refine k_idiv X dX3_change_34 ⟨by decide, by decide⟩ h (fun h => ?_)
  refine k_istore X dX3_change_35 h (fun v5 => [(5, kI v5), (0, .ref (ad t)), (1, kI a1), (2, kI a2), (3, kI a3), (4, kI a4)]) (by decide) (fun _ => rfl) (fun v5 h => ?_)
  refine k_aload_n X dX3_change_37 1 rfl ?_
  refine k_getR (t := t + 1) X fk_X3_9 ht (by decide) rfl dX3_change_38 ?_
  refine k_iconst X dX3_change_41 ?_
  refine k_iload X dX3_change_42 0 rfl ?_
  refine k_imul X dX3_change_44 ?_
  refine k_iald X (kc_3_0 ht) (Nat.le_of_ble_eq_true rfl) dX3_change_45 h (fun h => ?_)
  refine k_aload_n X dX3_change_46 1 rfl ?_
  refine k_getR (t := t + 1) X fk_X3_9 ht (by decide) rfl dX3_change_47 ?_
  refine k_iconst X dX3_change_50 ?_
  refine k_iload X dX3_change_51 0 rfl ?_
  refine k_imul X dX3_change_53 ?_
  refine k_iconst X dX3_change_54 ?_
  refine k_iadd X dX3_change_55 ?_
  refine k_iald X (kc_3_0 ht) (Nat.le_of_ble_eq_true rfl) dX3_change_56 h (fun h => ?_)
  refine k_icmp_le (tgt := 66) X dX3_change_57 (by decide) h (fun h => ?_) (fun h => ?_)
  · exact k_vret X hrt hlk dX3_change_66 h
  · refine k_aload_n X dX3_change_60 1 rfl ?_
    refine k_iload X dX3_change_61 0 rfl ?_
    refine k_putI X fp_X3_43 ht rfl dX3_change_63 (k_nameH h (fun z6 h => ?_))
    exact k_vret X hrt hlk dX3_change_66 h
set_option maxHeartbeats 4000000 in
set_option maxRecDepth 100000 in
theorem ct_X3_lower {l : Launch} {D : va_G} {cA : Nat → ClassId} {ad sa : Nat → Nat} (hj : kInj NC ad) (t : Nat) (ht : kdC t = (0, 3, 12)) (a1 : Int) (a2 : Int) (a3 : Int) (a4 : Int) (z : Hp) (Kp : Hp → Prop) (h : cal_X3_lower t a1 a2 a3 a4 z Kp) : kMet l yX3_lower cX3_lower 5 none 1 NC kdC D cA ad sa [.ref (ad t), kI a1, kI a2, kI a3, kI a4] z (kQv NC kdC D cA ad Kp) := by
  unfold cal_X3_lower at h
  refine k_met (cc := cX3_lower) (own := RX3) (nL := 5) rfl rfl (Nat.le_of_ble_eq_true rfl) hj kltC (fun p e s m below meth c X hrt hlk => ?_)
  refine k_sub (lv' := [(0, .ref (ad t)), (1, kI a1), (2, kI a2), (3, kI a3), (4, kI a4)]) [0, 1, 2, 3, 4] rfl ?_
  refine k_aload_n X dX3_lower_0 0 rfl ?_
  refine k_getI X fk_X3_43 ht rfl dX3_lower_1 ?_
  refine k_if_ge (tgt := 47) X dX3_lower_4 (by decide) h (fun h => ?_) (fun h => ?_)
  · exact k_vret X hrt hlk dX3_lower_47 h
  · refine k_aload_n X dX3_lower_7 0 rfl ?_
    refine k_getR (t := t + 1) X fk_X3_9 ht (by decide) rfl dX3_lower_8 ?_
    refine k_iconst X dX3_lower_11 ?_
    refine k_iload_n X dX3_lower_12 1 rfl ?_
    refine k_imul X dX3_lower_13 ?_
    refine k_iconst X dX3_lower_14 ?_
    refine k_iadd X dX3_lower_15 ?_
    refine k_iald X (kc_3_0 ht) (Nat.le_of_ble_eq_true rfl) dX3_lower_16 h (fun h => ?_)
    refine k_iload_n X dX3_lower_17 2 rfl ?_
    refine k_icmp_le (tgt := 47) X dX3_lower_18 (by decide) h (fun h => ?_) (fun h => ?_)
    · exact k_vret X hrt hlk dX3_lower_47 h
    · refine k_aload_n X dX3_lower_21 0 rfl ?_
      refine k_iconst X dX3_lower_22 ?_
      refine k_iload_n X dX3_lower_23 1 rfl ?_
      refine k_imul X dX3_lower_24 ?_
      refine k_iconst X dX3_lower_25 ?_
      refine k_iadd X dX3_lower_26 ?_
      refine k_iload_n X dX3_lower_27 2 rfl ?_
      refine k_iload_n X dX3_lower_28 3 rfl ?_
      refine k_iload X dX3_lower_29 4 rfl ?_
      refine k_if_ge (tgt := 38) X dX3_lower_31 (by decide) h (fun h => ?_) (fun h => ?_)
      · refine k_iconst X dX3_lower_38 ?_
        refine k_iload X dX3_lower_39 4 rfl ?_
        refine k_imul X dX3_lower_41 ?_
        refine k_iconst X dX3_lower_42 ?_
        refine k_iadd X dX3_lower_43 ?_
        refine k_afterV (st := []) (fun H locs ls hP hS hl => k_runV (As := [kI ((2 * a1) + 1), kI a2, kI a3, kI ((2 * a4) + 1)]) X lk_X3_103 rfl yo_X3_change rfl (kR_ok (by decide) (by decide)) (ct_X3_change (kCx_j X) t ht _ _ _ _ _ _ h) ht rfl (Nat.le_of_ble_eq_true rfl) dX3_lower_44 hP hS hl) (fun z1 h => ?_)
        exact k_vret X hrt hlk dX3_lower_47 h
      · refine k_iconst X dX3_lower_34 ?_
        refine k_goto (tgt := 44) X dX3_lower_35 (by decide) ?_
        refine k_afterV (st := []) (fun H locs ls hP hS hl => k_runV (As := [kI ((2 * a1) + 1), kI a2, kI a3, kI (-1)]) X lk_X3_103 rfl yo_X3_change rfl (kR_ok (by decide) (by decide)) (ct_X3_change (kCx_j X) t ht _ _ _ _ _ _ h) ht rfl (Nat.le_of_ble_eq_true rfl) dX3_lower_44 hP hS hl) (fun z2 h => ?_)
        exact k_vret X hrt hlk dX3_lower_47 h
set_option maxHeartbeats 4000000 in
set_option maxRecDepth 100000 in
theorem ct_X3_raise {l : Launch} {D : va_G} {cA : Nat → ClassId} {ad sa : Nat → Nat} (hj : kInj NC ad) (t : Nat) (ht : kdC t = (0, 3, 12)) (a1 : Int) (a2 : Int) (a3 : Int) (a4 : Int) (z : Hp) (Kp : Hp → Prop) (h : cal_X3_raise t a1 a2 a3 a4 z Kp) : kMet l yX3_raise cX3_raise 5 none 1 NC kdC D cA ad sa [.ref (ad t), kI a1, kI a2, kI a3, kI a4] z (kQv NC kdC D cA ad Kp) := by
  unfold cal_X3_raise at h
  refine k_met (cc := cX3_raise) (own := RX3) (nL := 5) rfl rfl (Nat.le_of_ble_eq_true rfl) hj kltC (fun p e s m below meth c X hrt hlk => ?_)
  refine k_sub (lv' := [(0, .ref (ad t)), (1, kI a1), (2, kI a2), (3, kI a3), (4, kI a4)]) [0, 1, 2, 3, 4] rfl ?_
  refine k_aload_n X dX3_raise_0 0 rfl ?_
  refine k_getI X fk_X3_43 ht rfl dX3_raise_1 ?_
  refine k_if_ge (tgt := 41) X dX3_raise_4 (by decide) h (fun h => ?_) (fun h => ?_)
  · exact k_vret X hrt hlk dX3_raise_41 h
  · refine k_aload_n X dX3_raise_7 0 rfl ?_
    refine k_getR (t := t + 1) X fk_X3_9 ht (by decide) rfl dX3_raise_8 ?_
    refine k_iconst X dX3_raise_11 ?_
    refine k_iload_n X dX3_raise_12 1 rfl ?_
    refine k_imul X dX3_raise_13 ?_
    refine k_iald X (kc_3_0 ht) (Nat.le_of_ble_eq_true rfl) dX3_raise_14 h (fun h => ?_)
    refine k_iload_n X dX3_raise_15 2 rfl ?_
    refine k_icmp_ge (tgt := 41) X dX3_raise_16 (by decide) h (fun h => ?_) (fun h => ?_)
    · exact k_vret X hrt hlk dX3_raise_41 h
    · refine k_aload_n X dX3_raise_19 0 rfl ?_
      refine k_iconst X dX3_raise_20 ?_
      refine k_iload_n X dX3_raise_21 1 rfl ?_
      refine k_imul X dX3_raise_22 ?_
      refine k_iload_n X dX3_raise_23 2 rfl ?_
      refine k_iload_n X dX3_raise_24 3 rfl ?_
      refine k_iload X dX3_raise_25 4 rfl ?_
      refine k_if_ge (tgt := 34) X dX3_raise_27 (by decide) h (fun h => ?_) (fun h => ?_)
      · refine k_iconst X dX3_raise_34 ?_
        refine k_iload X dX3_raise_35 4 rfl ?_
        refine k_imul X dX3_raise_37 ?_
        refine k_afterV (st := []) (fun H locs ls hP hS hl => k_runV (As := [kI (2 * a1), kI a2, kI a3, kI (2 * a4)]) X lk_X3_103 rfl yo_X3_change rfl (kR_ok (by decide) (by decide)) (ct_X3_change (kCx_j X) t ht _ _ _ _ _ _ h) ht rfl (Nat.le_of_ble_eq_true rfl) dX3_raise_38 hP hS hl) (fun z1 h => ?_)
        exact k_vret X hrt hlk dX3_raise_41 h
      · refine k_iconst X dX3_raise_30 ?_
        refine k_goto (tgt := 38) X dX3_raise_31 (by decide) ?_
        refine k_afterV (st := []) (fun H locs ls hP hS hl => k_runV (As := [kI (2 * a1), kI a2, kI a3, kI (-1)]) X lk_X3_103 rfl yo_X3_change rfl (kR_ok (by decide) (by decide)) (ct_X3_change (kCx_j X) t ht _ _ _ _ _ _ h) ht rfl (Nat.le_of_ble_eq_true rfl) dX3_raise_38 hP hS hl) (fun z2 h => ?_)
        exact k_vret X hrt hlk dX3_raise_41 h
set_option maxHeartbeats 4000000 in
set_option maxRecDepth 100000 in
theorem ct_X3_apply {l : Launch} {D : va_G} {cA : Nat → ClassId} {ad sa : Nat → Nat} (hj : kInj NC ad) (t : Nat) (ht : kdC t = (0, 3, 12)) (a1 : Int) (z : Hp) (Kp : Hp → Prop) (h : cal_X3_apply t a1 z Kp) : kMet l yX3_apply cX3_apply 4 none 2 NC kdC D cA ad sa [.ref (ad t), kI a1] z (kQv NC kdC D cA ad Kp) := by
  unfold cal_X3_apply at h
  refine k_met (cc := cX3_apply) (own := RX3) (nL := 4) rfl rfl (Nat.le_of_ble_eq_true rfl) hj kltC (fun p e s m below meth c X hrt hlk => ?_)
  refine k_sub (lv' := [(0, .ref (ad t)), (1, kI a1)]) [0, 1] rfl ?_
  refine k_aload_n X dX3_apply_0 0 rfl ?_
  refine k_getR (t := t + 4) X fk_X3_21 ht (by decide) rfl dX3_apply_1 ?_
  refine k_iload_n X dX3_apply_4 1 rfl ?_
  refine k_iald X (kc_3_3 ht) (Nat.le_of_ble_eq_true rfl) dX3_apply_5 h (fun h => ?_)
  refine k_istore_n X dX3_apply_6 h (fun v1 => [(2, kI v1), (0, .ref (ad t)), (1, kI a1)]) (by decide) (fun _ => rfl) (fun v1 h => ?_)
  refine k_aload_n X dX3_apply_7 1 rfl ?_
  refine k_getR (t := t + 5) X fk_X3_24 ht (by decide) rfl dX3_apply_8 ?_
  refine k_iload_n X dX3_apply_11 2 rfl ?_
  refine k_iald X (kc_3_4 ht) (Nat.le_of_ble_eq_true rfl) dX3_apply_12 h (fun h => ?_)
  refine k_istore_n X dX3_apply_13 h (fun v2 => [(3, kI v2), (2, kI v1), (0, .ref (ad t)), (1, kI a1)]) (by decide) (fun _ => rfl) (fun v2 h => ?_)
  refine k_iload_n X dX3_apply_14 0 rfl ?_
  refine k_if_ge (tgt := 45) X dX3_apply_15 (by decide) h (fun h => ?_) (fun h => ?_)
  · refine k_aload_n X dX3_apply_45 2 rfl ?_
    refine k_iload_n X dX3_apply_46 1 rfl ?_
    refine k_aload_n X dX3_apply_47 2 rfl ?_
    refine k_getR (t := t + 1) X fk_X3_9 ht (by decide) rfl dX3_apply_48 ?_
    refine k_iconst X dX3_apply_51 ?_
    refine k_iload_n X dX3_apply_52 0 rfl ?_
    refine k_imul X dX3_apply_53 ?_
    refine k_iald X (kc_3_0 ht) (Nat.le_of_ble_eq_true rfl) dX3_apply_54 h (fun h => ?_)
    refine k_aload_n X dX3_apply_55 2 rfl ?_
    refine k_getR (t := t + 6) X fk_X3_27 ht (by decide) rfl dX3_apply_56 ?_
    refine k_iload_n X dX3_apply_59 3 rfl ?_
    refine k_iald X (kc_3_5 ht) (Nat.le_of_ble_eq_true rfl) dX3_apply_60 h (fun h => ?_)
    refine k_iadd X dX3_apply_61 ?_
    refine k_iload_n X dX3_apply_62 3 rfl ?_
    refine k_iload_n X dX3_apply_63 0 rfl ?_
    refine k_afterV (st := []) (fun H locs ls hP hS hl => k_runV (As := [kI v1, kI ((z (t + 1) (2 * v2).toNat) + (z (t + 6) a1.toNat)), kI a1, kI v2]) X lk_X3_97 rfl yo_X3_raise rfl (kR_ok (by decide) (by decide)) (ct_X3_raise (kCx_j X) t ht _ _ _ _ _ _ h) ht rfl (Nat.le_of_ble_eq_true rfl) dX3_apply_64 hP hS hl) (fun z3 h => ?_)
    refine k_aload_n X dX3_apply_67 2 rfl ?_
    refine k_iload_n X dX3_apply_68 1 rfl ?_
    refine k_aload_n X dX3_apply_69 2 rfl ?_
    refine k_getR (t := t + 1) X fk_X3_9 ht (by decide) rfl dX3_apply_70 ?_
    refine k_iconst X dX3_apply_73 ?_
    refine k_iload_n X dX3_apply_74 0 rfl ?_
    refine k_imul X dX3_apply_75 ?_
    refine k_iconst X dX3_apply_76 ?_
    refine k_iadd X dX3_apply_77 ?_
    refine k_iald X (kc_3_0 ht) (Nat.le_of_ble_eq_true rfl) dX3_apply_78 h (fun h => ?_)
    refine k_aload_n X dX3_apply_79 2 rfl ?_
    refine k_getR (t := t + 7) X fk_X3_30 ht (by decide) rfl dX3_apply_80 ?_
    refine k_iload_n X dX3_apply_83 3 rfl ?_
    refine k_iald X (kc_3_6 ht) (Nat.le_of_ble_eq_true rfl) dX3_apply_84 h (fun h => ?_)
    refine k_iadd X dX3_apply_85 ?_
    refine k_iload_n X dX3_apply_86 3 rfl ?_
    refine k_iload_n X dX3_apply_87 0 rfl ?_
    refine k_afterV (st := []) (fun H locs ls hP hS hl => k_runV (As := [kI v1, kI ((z3 (t + 1) ((2 * v2) + 1).toNat) + (z3 (t + 7) a1.toNat)), kI a1, kI v2]) X lk_X3_100 rfl yo_X3_lower rfl (kR_ok (by decide) (by decide)) (ct_X3_lower (kCx_j X) t ht _ _ _ _ _ _ h) ht rfl (Nat.le_of_ble_eq_true rfl) dX3_apply_88 hP hS hl) (fun z4 h => ?_)
    refine k_aload_n X dX3_apply_91 2 rfl ?_
    refine k_iload_n X dX3_apply_92 0 rfl ?_
    refine k_aload_n X dX3_apply_93 2 rfl ?_
    refine k_getR (t := t + 1) X fk_X3_9 ht (by decide) rfl dX3_apply_94 ?_
    refine k_iconst X dX3_apply_97 ?_
    refine k_iload_n X dX3_apply_98 1 rfl ?_
    refine k_imul X dX3_apply_99 ?_
    refine k_iald X (kc_3_0 ht) (Nat.le_of_ble_eq_true rfl) dX3_apply_100 h (fun h => ?_)
    refine k_aload_n X dX3_apply_101 2 rfl ?_
    refine k_getR (t := t + 7) X fk_X3_30 ht (by decide) rfl dX3_apply_102 ?_
    refine k_iload_n X dX3_apply_105 3 rfl ?_
    refine k_iald X (kc_3_6 ht) (Nat.le_of_ble_eq_true rfl) dX3_apply_106 h (fun h => ?_)
    refine k_isub X dX3_apply_107 ?_
    refine k_iload_n X dX3_apply_108 3 rfl ?_
    refine k_iload_n X dX3_apply_109 1 rfl ?_
    refine k_afterV (st := []) (fun H locs ls hP hS hl => k_runV (As := [kI v2, kI ((z4 (t + 1) (2 * v1).toNat) - (z4 (t + 7) a1.toNat)), kI a1, kI v1]) X lk_X3_97 rfl yo_X3_raise rfl (kR_ok (by decide) (by decide)) (ct_X3_raise (kCx_j X) t ht _ _ _ _ _ _ h) ht rfl (Nat.le_of_ble_eq_true rfl) dX3_apply_110 hP hS hl) (fun z5 h => ?_)
    refine k_aload_n X dX3_apply_113 2 rfl ?_
    refine k_iload_n X dX3_apply_114 0 rfl ?_
    refine k_aload_n X dX3_apply_115 2 rfl ?_
    refine k_getR (t := t + 1) X fk_X3_9 ht (by decide) rfl dX3_apply_116 ?_
    refine k_iconst X dX3_apply_119 ?_
    refine k_iload_n X dX3_apply_120 1 rfl ?_
    refine k_imul X dX3_apply_121 ?_
    refine k_iconst X dX3_apply_122 ?_
    refine k_iadd X dX3_apply_123 ?_
    refine k_iald X (kc_3_0 ht) (Nat.le_of_ble_eq_true rfl) dX3_apply_124 h (fun h => ?_)
    refine k_aload_n X dX3_apply_125 2 rfl ?_
    refine k_getR (t := t + 6) X fk_X3_27 ht (by decide) rfl dX3_apply_126 ?_
    refine k_iload_n X dX3_apply_129 3 rfl ?_
    refine k_iald X (kc_3_5 ht) (Nat.le_of_ble_eq_true rfl) dX3_apply_130 h (fun h => ?_)
    refine k_isub X dX3_apply_131 ?_
    refine k_iload_n X dX3_apply_132 3 rfl ?_
    refine k_iload_n X dX3_apply_133 1 rfl ?_
    refine k_afterV (st := []) (fun H locs ls hP hS hl => k_runV (As := [kI v2, kI ((z5 (t + 1) ((2 * v1) + 1).toNat) - (z5 (t + 6) a1.toNat)), kI a1, kI v1]) X lk_X3_100 rfl yo_X3_lower rfl (kR_ok (by decide) (by decide)) (ct_X3_lower (kCx_j X) t ht _ _ _ _ _ _ h) ht rfl (Nat.le_of_ble_eq_true rfl) dX3_apply_134 hP hS hl) (fun z6 h => ?_)
    exact k_vret X hrt hlk dX3_apply_137 h
  · refine k_aload_n X dX3_apply_18 2 rfl ?_
    refine k_iload_n X dX3_apply_19 1 rfl ?_
    refine k_aload_n X dX3_apply_20 2 rfl ?_
    refine k_getR (t := t + 6) X fk_X3_27 ht (by decide) rfl dX3_apply_21 ?_
    refine k_iload_n X dX3_apply_24 3 rfl ?_
    refine k_iald X (kc_3_5 ht) (Nat.le_of_ble_eq_true rfl) dX3_apply_25 h (fun h => ?_)
    refine k_iload_n X dX3_apply_26 3 rfl ?_
    refine k_iconst X dX3_apply_27 ?_
    refine k_afterV (st := []) (fun H locs ls hP hS hl => k_runV (As := [kI v1, kI (z (t + 6) a1.toNat), kI a1, kI (-1)]) X lk_X3_97 rfl yo_X3_raise rfl (kR_ok (by decide) (by decide)) (ct_X3_raise (kCx_j X) t ht _ _ _ _ _ _ h) ht rfl (Nat.le_of_ble_eq_true rfl) dX3_apply_28 hP hS hl) (fun z7 h => ?_)
    refine k_aload_n X dX3_apply_31 2 rfl ?_
    refine k_iload_n X dX3_apply_32 1 rfl ?_
    refine k_aload_n X dX3_apply_33 2 rfl ?_
    refine k_getR (t := t + 7) X fk_X3_30 ht (by decide) rfl dX3_apply_34 ?_
    refine k_iload_n X dX3_apply_37 3 rfl ?_
    refine k_iald X (kc_3_6 ht) (Nat.le_of_ble_eq_true rfl) dX3_apply_38 h (fun h => ?_)
    refine k_iload_n X dX3_apply_39 3 rfl ?_
    refine k_iconst X dX3_apply_40 ?_
    refine k_afterV (st := []) (fun H locs ls hP hS hl => k_runV (As := [kI v1, kI (z7 (t + 7) a1.toNat), kI a1, kI (-1)]) X lk_X3_100 rfl yo_X3_lower rfl (kR_ok (by decide) (by decide)) (ct_X3_lower (kCx_j X) t ht _ _ _ _ _ _ h) ht rfl (Nat.le_of_ble_eq_true rfl) dX3_apply_41 hP hS hl) (fun z8 h => ?_)
    exact k_vret X hrt hlk dX3_apply_44 h
set_option maxHeartbeats 4000000 in
set_option maxRecDepth 100000 in
theorem ct_X3_follow {l : Launch} {D : va_G} {cA : Nat → ClassId} {ad sa : Nat → Nat} (hj : kInj NC ad) (t : Nat) (ht : kdC t = (0, 3, 12)) (a1 : Int) (a2 : Int) (z : Hp) (Kp : Int → Prop) (h : cal_X3_follow t a1 a2 z Kp) : kMet l yX3_follow cX3_follow 5 (some .int) 0 NC kdC D cA ad sa [.ref (ad t), kI a1, kI a2] z (kQi NC kdC D cA ad (fun v z1 => z1 = z ∧ Kp v)) := by
  unfold cal_X3_follow at h
  refine k_met (cc := cX3_follow) (own := RX3) (nL := 5) rfl rfl (Nat.le_of_ble_eq_true rfl) hj kltC (fun p e s m below meth c X hrt hlk => ?_)
  refine k_sub (lv' := [(0, .ref (ad t)), (1, kI a1), (2, kI a2)]) [0, 1, 2] rfl ?_
  refine k_iload_n X dX3_follow_0 1 rfl ?_
  refine k_istore_n X dX3_follow_1 h (fun v1 => [(3, kI v1), (0, .ref (ad t)), (1, kI a1), (2, kI a2)]) (by decide) (fun _ => rfl) (fun v1 h => ?_)
  refine k_iconst X dX3_follow_2 ?_
  refine k_istore X dX3_follow_3 h (fun v2 => [(4, kI v2), (3, kI v1), (0, .ref (ad t)), (1, kI a1), (2, kI a2)]) (by decide) (fun _ => rfl) (fun v2 h => ?_)
  refine k_sub (lv' := [(0, .ref (ad t)), (2, kI a2), (3, kI v1), (4, kI v2)]) [2, 4, 1, 0] rfl ?_
  refine h (fun v4 v5 => kAt p l e (kR 0) s m ([.ref (ad t), kI a1, kI a2] : List Value).toArray below meth c (MQ below (kQi NC kdC D cA ad (fun v z1 => z1 = z ∧ Kp v)) ([.ref (ad t), kI a1, kI a2] : List Value).toArray s 0 0 (kA NC ad)) 5 NC kdC D cA ad 5 [(0, .ref (ad t)), (2, kI a2), (3, kI v4), (4, kI v5)] [] z) (fun v4 v5 h => ?_)
  refine k_iload X dX3_follow_5 3 rfl ?_
  refine k_iload_n X dX3_follow_7 1 rfl ?_
  refine jn_use (fun J7 => ∀ (v6 : Int), J7 v6 → kAt p l e (kR 0) s m ([.ref (ad t), kI a1, kI a2] : List Value).toArray below meth c (MQ below (kQi NC kdC D cA ad (fun v z1 => z1 = z ∧ Kp v)) ([.ref (ad t), kI a1, kI a2] : List Value).toArray s 0 0 (kA NC ad)) 5 NC kdC D cA ad 28 [(0, .ref (ad t)), (3, kI v6)] [] z) h ?_ (fun J7 hJ7 h => ?_)
  · intro v6 h
    refine k_iload_n X dX3_follow_28 1 rfl ?_
    refine k_if_lt (tgt := 45) X dX3_follow_29 (by decide) h (fun h => ?_) (fun h => ?_)
    · refine k_iconst X dX3_follow_45 ?_
      exact k_iret X hrt hlk dX3_follow_46 ⟨rfl, h⟩
    · refine k_aload_n X dX3_follow_32 0 rfl ?_
      refine k_getR (t := t + 2) X fk_X3_15 ht (by decide) rfl dX3_follow_33 ?_
      refine k_iload_n X dX3_follow_36 1 rfl ?_
      refine k_iald X (kc_3_1 ht) (Nat.le_of_ble_eq_true rfl) dX3_follow_37 h (fun h => ?_)
      refine k_if_lt (tgt := 45) X dX3_follow_38 (by decide) h (fun h => ?_) (fun h => ?_)
      · refine k_iconst X dX3_follow_45 ?_
        exact k_iret X hrt hlk dX3_follow_46 ⟨rfl, h⟩
      · refine k_iload_n X dX3_follow_41 1 rfl ?_
        refine k_goto (tgt := 46) X dX3_follow_42 (by decide) ?_
        exact k_iret X hrt hlk dX3_follow_46 ⟨rfl, h⟩
  · refine k_icmp_ge (tgt := 28) X dX3_follow_8 (by decide) h (fun h => ?_) (fun h => ?_)
    · exact k_sub [0, 2] rfl (hJ7 _ h)
    · refine k_iload_n X dX3_follow_11 2 rfl ?_
      refine k_if_lt (tgt := 28) X dX3_follow_12 (by decide) h (fun h => ?_) (fun h => ?_)
      · exact k_sub [0, 2] rfl (hJ7 _ h)
      · refine k_aload_n X dX3_follow_15 0 rfl ?_
        refine k_getR (t := t + 3) X fk_X3_18 ht (by decide) rfl dX3_follow_16 ?_
        refine k_iload_n X dX3_follow_19 2 rfl ?_
        refine k_iald X (kc_3_2 ht) (Nat.le_of_ble_eq_true rfl) dX3_follow_20 h (fun h => ?_)
        refine k_istore_n X dX3_follow_21 h (fun v8 => [(3, kI v8), (0, .ref (ad t)), (2, kI a2), (4, kI v5)]) (by decide) (fun _ => rfl) (fun v8 h => ?_)
        refine k_iinc X dX3_follow_22 3 rfl h (fun v9 => [(4, kI v9), (3, kI v8), (0, .ref (ad t)), (2, kI a2)]) (by decide) (fun _ => rfl) (fun v9 h => ?_)
        refine k_goto (tgt := 5) X dX3_follow_25 (by decide) ?_
        exact k_sub [2, 3, 1, 0] rfl h
set_option maxHeartbeats 4000000 in
set_option maxRecDepth 100000 in
theorem ct_X3_narrow {l : Launch} {D : va_G} {cA : Nat → ClassId} {ad sa : Nat → Nat} (hj : kInj NC ad) (t : Nat) (ht : kdC t = (0, 3, 12)) (a1 : Int) (z : Hp) (Kp : Int → Hp → Prop) (h : cal_X3_narrow t a1 z Kp) : kMet l yX3_narrow cX3_narrow 4 (some .boolean) 3 NC kdC D cA ad sa [.ref (ad t), kI a1] z (kQi NC kdC D cA ad Kp) := by
  unfold cal_X3_narrow at h
  refine k_met (cc := cX3_narrow) (own := RX3) (nL := 4) rfl rfl (Nat.le_of_ble_eq_true rfl) hj kltC (fun p e s m below meth c X hrt hlk => ?_)
  refine k_sub (lv' := [(0, .ref (ad t)), (1, kI a1)]) [0, 1] rfl ?_
  refine k_iconst X dX3_narrow_0 ?_
  refine k_istore_n X dX3_narrow_1 h (fun v1 => [(2, kI v1), (0, .ref (ad t)), (1, kI a1)]) (by decide) (fun _ => rfl) (fun v1 h => ?_)
  refine k_sub (lv' := [(0, .ref (ad t)), (1, kI a1), (2, kI v1)]) [1, 2, 0] rfl ?_
  refine h (fun v3 z4 => kAt p l e (kR 3) s m ([.ref (ad t), kI a1] : List Value).toArray below meth c (MQ below (kQi NC kdC D cA ad Kp) ([.ref (ad t), kI a1] : List Value).toArray s 0 0 (kA NC ad)) 4 NC kdC D cA ad 2 [(0, .ref (ad t)), (1, kI a1), (2, kI v3)] [] z4) (fun v3 z4 h => ?_)
  refine k_iload_n X dX3_narrow_2 2 rfl ?_
  refine k_iload_n X dX3_narrow_3 1 rfl ?_
  refine k_icmp_ge (tgt := 74) X dX3_narrow_4 (by decide) h (fun h => ?_) (fun h => ?_)
  · refine k_iconst X dX3_narrow_74 ?_
    exact k_zret X hrt hlk dX3_narrow_75 ⟨Or.inl rfl, h⟩
  · refine k_aload_n X dX3_narrow_7 0 rfl ?_
    refine k_dup X dX3_narrow_8 rfl ?_
    refine k_getI X fk_X3_40 ht rfl dX3_narrow_9 ?_
    refine k_iconst X dX3_narrow_12 ?_
    refine k_iadd X dX3_narrow_13 ?_
    refine k_putI X fp_X3_40 ht rfl dX3_narrow_14 (k_nameH h (fun z5 h => ?_))
    refine k_aload_n X dX3_narrow_17 0 rfl ?_
    refine k_iconst X dX3_narrow_18 ?_
    refine k_putZ X fp_X3_89 ht rfl (Or.inl rfl) dX3_narrow_19 (k_nameH h (fun z6 h => ?_))
    refine k_iconst X dX3_narrow_22 ?_
    refine k_istore_n X dX3_narrow_23 h (fun v7 => [(3, kI v7), (0, .ref (ad t)), (1, kI a1), (2, kI v3)]) (by decide) (fun _ => rfl) (fun v7 h => ?_)
    refine k_sub (lv' := [(0, .ref (ad t)), (1, kI a1), (2, kI v3), (3, kI v7)]) [1, 2, 3, 0] rfl ?_
    refine h (fun v9 z10 => kAt p l e (kR 3) s m ([.ref (ad t), kI a1] : List Value).toArray below meth c (MQ below (kQi NC kdC D cA ad Kp) ([.ref (ad t), kI a1] : List Value).toArray s 0 0 (kA NC ad)) 4 NC kdC D cA ad 24 [(0, .ref (ad t)), (1, kI a1), (2, kI v3), (3, kI v9)] [] z10) (fun v9 z10 h => ?_)
    refine k_iload_n X dX3_narrow_24 3 rfl ?_
    refine k_aload_n X dX3_narrow_25 0 rfl ?_
    refine k_getI X fk_X3_36 ht rfl dX3_narrow_26 ?_
    refine jn_use (fun J11 => ∀ (z12 : Hp), J11 z12 → kAt p l e (kR 3) s m ([.ref (ad t), kI a1] : List Value).toArray below meth c (MQ below (kQi NC kdC D cA ad Kp) ([.ref (ad t), kI a1] : List Value).toArray s 0 0 (kA NC ad)) 4 NC kdC D cA ad 50 [(0, .ref (ad t)), (1, kI a1), (2, kI v3)] [] z12) h ?_ (fun J11 hJ11 h => ?_)
    · intro z12 h
      refine k_aload_n X dX3_narrow_50 0 rfl ?_
      refine k_getI X fk_X3_43 ht rfl dX3_narrow_51 ?_
      refine k_if_lt (tgt := 59) X dX3_narrow_54 (by decide) h (fun h => ?_) (fun h => ?_)
      · refine k_aload_n X dX3_narrow_59 0 rfl ?_
        refine k_getI X fk_X3_89 ht rfl dX3_narrow_60 ?_
        refine k_if_ne (tgt := 68) X dX3_narrow_63 (by decide) h (fun h => ?_) (fun h => ?_)
        · refine k_iinc X dX3_narrow_68 2 rfl h (fun v13 => [(2, kI v13), (0, .ref (ad t)), (1, kI a1)]) (by decide) (fun _ => rfl) (fun v13 h => ?_)
          refine k_goto (tgt := 2) X dX3_narrow_71 (by decide) ?_
          exact k_sub [1, 2, 0] rfl h
        · refine k_iconst X dX3_narrow_66 ?_
          exact k_zret X hrt hlk dX3_narrow_67 ⟨Or.inr rfl, h⟩
      · refine k_iconst X dX3_narrow_57 ?_
        exact k_zret X hrt hlk dX3_narrow_58 ⟨Or.inl rfl, h⟩
    · refine k_icmp_ge (tgt := 50) X dX3_narrow_29 (by decide) h (fun h => ?_) (fun h => ?_)
      · exact k_sub [0, 1, 2] rfl (hJ11 _ h)
      · refine k_aload_n X dX3_narrow_32 0 rfl ?_
        refine k_getI X fk_X3_43 ht rfl dX3_narrow_33 ?_
        refine k_if_ge (tgt := 50) X dX3_narrow_36 (by decide) h (fun h => ?_) (fun h => ?_)
        · exact k_sub [0, 1, 2] rfl (hJ11 _ h)
        · refine k_aload_n X dX3_narrow_39 0 rfl ?_
          refine k_iload_n X dX3_narrow_40 3 rfl ?_
          refine k_afterV (st := []) (fun H locs ls hP hS hl => k_runV (As := [kI v9]) X lk_X3_93 rfl yo_X3_apply rfl (kR_ok (by decide) (by decide)) (ct_X3_apply (kCx_j X) t ht _ _ _ h) ht rfl (Nat.le_of_ble_eq_true rfl) dX3_narrow_41 hP hS hl) (fun z14 h => ?_)
          refine k_iinc X dX3_narrow_44 3 rfl h (fun v15 => [(3, kI v15), (0, .ref (ad t)), (1, kI a1), (2, kI v3)]) (by decide) (fun _ => rfl) (fun v15 h => ?_)
          refine k_goto (tgt := 24) X dX3_narrow_47 (by decide) ?_
          exact k_sub [1, 2, 3, 0] rfl h
