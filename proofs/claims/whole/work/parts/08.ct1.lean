set_option maxHeartbeats 4000000 in
set_option maxRecDepth 100000 in
theorem ct_X10_weds {l : Launch} {D : va_G} {cA : Nat → ClassId} {ad sa : Nat → Nat} (hj : kInj NM ad) (a1 : Int) (a2 : Int) (z : Hp) (Kp : Hp → Prop) (h : cal_X10_weds a1 a2 z Kp) : kMet l yX10_weds cX10_weds 3 none 2 NM kdM D cA ad sa [.ref (ad 0), kI a1, kI a2] z (kQv NM kdM D cA ad Kp) := by
  unfold cal_X10_weds at h
  refine k_met (cc := cX10_weds) (own := RX10) (nL := 3) rfl rfl (Nat.le_of_ble_eq_true rfl) hj kltM (fun p e s m below meth c X hrt hlk => ?_)
  refine k_sub (lv' := [(0, .ref (ad 0)), (1, kI a1), (2, kI a2)]) [0, 1, 2] rfl ?_
  refine k_aload_n X dX10_weds_0 0 rfl ?_
  refine k_iload_n X dX10_weds_1 2 rfl ?_
  refine k_iload_n X dX10_weds_2 1 rfl ?_
  refine k_afterP (st := [kI a2, .ref (ad 0)]) (fun H locs ls hP hS hl => k_runS (As := [kI a1]) X lk_X10_128 yo_X10_bornOf rfl (kR_ok (by decide) (by decide)) (ct_X10_bornOf (kCx_j X) _ _ _ h) (Nat.le_of_ble_eq_true rfl) dX10_weds_3 hP hS hl) (fun v1 h => ?_)
  refine k_bipush X dX10_weds_6 (by decide +kernel) ?_
  refine k_bipush X dX10_weds_8 (by decide +kernel) ?_
  refine k_afterV (st := []) (fun H locs ls hP hS hl => k_runV (As := [kI a2, kI v1, kI 14, kI 110]) X lk_X10_131 rfl yo_X10_differ rfl (kR_ok (by decide) (by decide)) (ct_X10_differ (kCx_j X) _ _ _ _ _ _ h) (by rfl) rfl (Nat.le_of_ble_eq_true rfl) dX10_weds_10 hP hS hl) (fun z2 h => ?_)
  refine k_aload_n X dX10_weds_13 0 rfl ?_
  refine k_iload_n X dX10_weds_14 1 rfl ?_
  refine k_afterP (st := [.ref (ad 0)]) (fun H locs ls hP hS hl => k_runS (As := [kI a1]) X lk_X10_128 yo_X10_bornOf rfl (kR_ok (by decide) (by decide)) (ct_X10_bornOf (kCx_j X) _ _ _ h) (Nat.le_of_ble_eq_true rfl) dX10_weds_15 hP hS hl) (fun v3 h => ?_)
  refine k_iconst X dX10_weds_18 ?_
  refine k_iadd X dX10_weds_19 ?_
  refine k_iload_n X dX10_weds_20 2 rfl ?_
  refine k_iconst X dX10_weds_21 ?_
  refine k_sipush X dX10_weds_22 (by decide +kernel) ?_
  refine k_afterV (st := []) (fun H locs ls hP hS hl => k_runV (As := [kI (v3 + 1), kI a2, kI 0, kI 3001]) X lk_X10_131 rfl yo_X10_differ rfl (kR_ok (by decide) (by decide)) (ct_X10_differ (kCx_j X) _ _ _ _ _ _ h) (by rfl) rfl (Nat.le_of_ble_eq_true rfl) dX10_weds_25 hP hS hl) (fun z4 h => ?_)
  exact k_vret X hrt hlk dX10_weds_28 h
set_option maxHeartbeats 4000000 in
set_option maxRecDepth 100000 in
theorem ct_X10_yearOf {l : Launch} {D : va_G} {cA : Nat → ClassId} {ad sa : Nat → Nat} (hj : kInj NM ad) (a1 : Int) (z : Hp) (Kp : Int → Prop) (h : cal_X10_yearOf a1 z Kp) : kMet l yX10_yearOf cX10_yearOf 1 (some .int) 0 NM kdM D cA ad sa [kI a1] z (kQi NM kdM D cA ad (fun v z1 => z1 = z ∧ Kp v)) := by
  unfold cal_X10_yearOf at h
  refine k_met (cc := cX10_yearOf) (own := RX10) (nL := 1) rfl rfl (Nat.le_of_ble_eq_true rfl) hj kltM (fun p e s m below meth c X hrt hlk => ?_)
  refine k_sub (lv' := [(0, kI a1)]) [0] rfl ?_
  refine k_bipush X dX10_yearOf_0 (by decide +kernel) ?_
  refine k_iload_n X dX10_yearOf_2 0 rfl ?_
  refine k_iadd X dX10_yearOf_3 ?_
  exact k_iret X hrt hlk dX10_yearOf_4 ⟨rfl, h⟩
set_option maxHeartbeats 4000000 in
set_option maxRecDepth 100000 in
theorem ct_X10_applies {l : Launch} {D : va_G} {cA : Nat → ClassId} {ad sa : Nat → Nat} (hj : kInj NM ad) (a1 : Int) (z : Hp) (Kp : Hp → Prop) (h : cal_X10_applies a1 z Kp) : kMet l yX10_applies cX10_applies 5 none 3 NM kdM D cA ad sa [.ref (ad 0), kI a1] z (kQv NM kdM D cA ad Kp) := by
  unfold cal_X10_applies at h
  refine k_met (cc := cX10_applies) (own := RX10) (nL := 5) rfl rfl (Nat.le_of_ble_eq_true rfl) hj kltM (fun p e s m below meth c X hrt hlk => ?_)
  refine k_sub (lv' := [(0, .ref (ad 0)), (1, kI a1)]) [0, 1] rfl ?_
  refine k_aload_n X dX10_applies_0 0 rfl ?_
  refine k_getR (t := 6) X fk_X10_27 (by rfl) (by decide) rfl dX10_applies_1 ?_
  refine k_aload_n X dX10_applies_4 0 rfl ?_
  refine k_iload_n X dX10_applies_5 1 rfl ?_
  refine k_iconst X dX10_applies_6 ?_
  refine k_afterP (st := [.ref (ad 6)]) (fun H locs ls hP hS hl => k_runV (As := [kI a1, kI 1]) X lk_X10_76 rfl yo_X10_told rfl (kR_ok (by decide) (by decide)) (ct_X10_told (kCx_j X) _ _ _ _ h) (by rfl) rfl (Nat.le_of_ble_eq_true rfl) dX10_applies_7 hP hS hl) (fun v1 h => ?_)
  refine k_iald X kzM_6 (Nat.le_of_ble_eq_true rfl) dX10_applies_10 h (fun h => ?_)
  refine k_istore_n X dX10_applies_11 h (fun v2 => [(2, kI v2), (0, .ref (ad 0)), (1, kI a1)]) (by decide) (fun _ => rfl) (fun v2 h => ?_)
  refine k_aload_n X dX10_applies_12 1 rfl ?_
  refine k_iload_n X dX10_applies_13 2 rfl ?_
  refine k_iconst X dX10_applies_14 ?_
  refine k_afterP (st := []) (fun H locs ls hP hS hl => k_runV (As := [kI a1, kI 2]) X lk_X10_76 rfl yo_X10_told rfl (kR_ok (by decide) (by decide)) (ct_X10_told (kCx_j X) _ _ _ _ h) (by rfl) rfl (Nat.le_of_ble_eq_true rfl) dX10_applies_15 hP hS hl) (fun v3 h => ?_)
  refine jn_use (fun J5 => ∀ (v4 : Int), J5 v4 → kAt p l e (kR 3) s m ([.ref (ad 0), kI a1] : List Value).toArray below meth c (MQ below (kQv NM kdM D cA ad Kp) ([.ref (ad 0), kI a1] : List Value).toArray s 0 0 (kA NM ad)) 5 NM kdM D cA ad 37 [(0, .ref (ad 0)), (1, kI a1), (2, kI v2), (3, kI v4)] [] z) h ?_ (fun J5 hJ5 h => ?_)
  · intro v4 h
    refine k_aload_n X dX10_applies_37 0 rfl ?_
    refine k_iload_n X dX10_applies_38 1 rfl ?_
    refine k_iconst X dX10_applies_39 ?_
    refine k_afterP (st := []) (fun H locs ls hP hS hl => k_runV (As := [kI a1, kI 3]) X lk_X10_76 rfl yo_X10_told rfl (kR_ok (by decide) (by decide)) (ct_X10_told (kCx_j X) _ _ _ _ h) (by rfl) rfl (Nat.le_of_ble_eq_true rfl) dX10_applies_40 hP hS hl) (fun v6 h => ?_)
    refine k_istore X dX10_applies_43 h (fun v7 => [(4, kI v7), (0, .ref (ad 0)), (1, kI a1), (2, kI v2), (3, kI v4)]) (by decide) (fun _ => rfl) (fun v7 h => ?_)
    refine k_aload_n X dX10_applies_45 1 rfl ?_
    refine k_iload_n X dX10_applies_46 2 rfl ?_
    refine k_putI X fp_X10_117 (by rfl) rfl dX10_applies_47 (k_nameH h (fun z8 h => ?_))
    refine k_aload_n X dX10_applies_50 1 rfl ?_
    refine k_iload_n X dX10_applies_51 2 rfl ?_
    refine k_iconst X dX10_applies_52 ?_
    refine k_afterP (st := []) (fun H locs ls hP hS hl => k_runV (As := [kI a1, kI 0]) X lk_X10_76 rfl yo_X10_told rfl (kR_ok (by decide) (by decide)) (ct_X10_told (kCx_j X) _ _ _ _ h) (by rfl) rfl (Nat.le_of_ble_eq_true rfl) dX10_applies_53 hP hS hl) (fun v9 h => ?_)
    obtain ⟨hr42, h⟩ := h
    by_cases q43 : v9 = 0
    · rw [if_pos q43] at h
      refine k_swin (tgt := 104) X dX10_applies_56 hr42 q43 (by decide) (by decide) rfl (by decide) ?_
      refine k_aload_n X dX10_applies_104 1 rfl ?_
      refine k_iload_n X dX10_applies_105 3 rfl ?_
      refine k_afterP (st := [.ref (ad 0)]) (fun H locs ls hP hS hl => k_runS (As := [kI v2]) X lk_X10_128 yo_X10_bornOf rfl (kR_ok (by decide) (by decide)) (ct_X10_bornOf (kCx_j X) _ _ _ h) (Nat.le_of_ble_eq_true rfl) dX10_applies_106 hP hS hl) (fun v10 h => ?_)
      refine k_iload X dX10_applies_109 0 rfl ?_
      refine k_aload_n X dX10_applies_111 1 rfl ?_
      refine k_iload_n X dX10_applies_112 2 rfl ?_
      refine k_iconst X dX10_applies_113 ?_
      refine k_afterP (st := [kI v7, kI v10, .ref (ad 0)]) (fun H locs ls hP hS hl => k_runV (As := [kI a1, kI 4]) X lk_X10_76 rfl yo_X10_told rfl (kR_ok (by decide) (by decide)) (ct_X10_told (kCx_j X) _ _ _ _ h) (by rfl) rfl (Nat.le_of_ble_eq_true rfl) dX10_applies_114 hP hS hl) (fun v11 h => ?_)
      refine k_afterV (st := []) (fun H locs ls hP hS hl => k_runV (As := [kI v10, kI v7, kI v11]) X lk_X10_135 rfl yo_X10_isWithin rfl (kR_ok (by decide) (by decide)) (ct_X10_isWithin (kCx_j X) _ _ _ _ _ h) (by rfl) rfl (Nat.le_of_ble_eq_true rfl) dX10_applies_117 hP hS hl) (fun z12 h => ?_)
      refine k_goto (tgt := 310) X dX10_applies_120 (by decide) ?_
      exact k_vret X hrt hlk dX10_applies_310 h
    rw [if_neg q43] at h
    by_cases q44 : v9 = 1
    · rw [if_pos q44] at h
      refine k_swin (tgt := 123) X dX10_applies_56 hr42 q44 (by decide) (by decide) rfl (by decide) ?_
      refine k_aload_n X dX10_applies_123 1 rfl ?_
      refine k_iload_n X dX10_applies_124 3 rfl ?_
      refine k_afterP (st := [.ref (ad 0)]) (fun H locs ls hP hS hl => k_runS (As := [kI v2]) X lk_X10_128 yo_X10_bornOf rfl (kR_ok (by decide) (by decide)) (ct_X10_bornOf (kCx_j X) _ _ _ h) (Nat.le_of_ble_eq_true rfl) dX10_applies_125 hP hS hl) (fun v13 h => ?_)
      refine k_iconst X dX10_applies_128 ?_
      refine k_iadd X dX10_applies_129 ?_
      refine k_iload X dX10_applies_130 0 rfl ?_
      refine k_aload_n X dX10_applies_132 1 rfl ?_
      refine k_iload_n X dX10_applies_133 2 rfl ?_
      refine k_iconst X dX10_applies_134 ?_
      refine k_afterP (st := [kI v7, kI (v13 + 1), .ref (ad 0)]) (fun H locs ls hP hS hl => k_runV (As := [kI a1, kI 4]) X lk_X10_76 rfl yo_X10_told rfl (kR_ok (by decide) (by decide)) (ct_X10_told (kCx_j X) _ _ _ _ h) (by rfl) rfl (Nat.le_of_ble_eq_true rfl) dX10_applies_135 hP hS hl) (fun v14 h => ?_)
      refine k_afterV (st := []) (fun H locs ls hP hS hl => k_runV (As := [kI (v13 + 1), kI v7, kI v14]) X lk_X10_135 rfl yo_X10_isWithin rfl (kR_ok (by decide) (by decide)) (ct_X10_isWithin (kCx_j X) _ _ _ _ _ h) (by rfl) rfl (Nat.le_of_ble_eq_true rfl) dX10_applies_138 hP hS hl) (fun z15 h => ?_)
      refine k_goto (tgt := 310) X dX10_applies_141 (by decide) ?_
      exact k_vret X hrt hlk dX10_applies_310 h
    rw [if_neg q44] at h
    by_cases q45 : v9 = 2
    · rw [if_pos q45] at h
      refine k_swin (tgt := 144) X dX10_applies_56 hr42 q45 (by decide) (by decide) rfl (by decide) ?_
      refine k_aload_n X dX10_applies_144 1 rfl ?_
      refine k_iload_n X dX10_applies_145 3 rfl ?_
      refine k_afterP (st := [.ref (ad 0)]) (fun H locs ls hP hS hl => k_runS (As := [kI v2]) X lk_X10_128 yo_X10_bornOf rfl (kR_ok (by decide) (by decide)) (ct_X10_bornOf (kCx_j X) _ _ _ h) (Nat.le_of_ble_eq_true rfl) dX10_applies_146 hP hS hl) (fun v16 h => ?_)
      refine k_iload_n X dX10_applies_149 4 rfl ?_
      refine k_afterP (st := [kI v16, .ref (ad 0)]) (fun H locs ls hP hS hl => k_runS (As := [kI v4]) X lk_X10_128 yo_X10_bornOf rfl (kR_ok (by decide) (by decide)) (ct_X10_bornOf (kCx_j X) _ _ _ h) (Nat.le_of_ble_eq_true rfl) dX10_applies_150 hP hS hl) (fun v17 h => ?_)
      refine k_bipush X dX10_applies_153 (by decide +kernel) ?_
      refine k_bipush X dX10_applies_155 (by decide +kernel) ?_
      refine k_afterV (st := []) (fun H locs ls hP hS hl => k_runV (As := [kI v16, kI v17, kI 12, kI 55]) X lk_X10_131 rfl yo_X10_differ rfl (kR_ok (by decide) (by decide)) (ct_X10_differ (kCx_j X) _ _ _ _ _ _ h) (by rfl) rfl (Nat.le_of_ble_eq_true rfl) dX10_applies_157 hP hS hl) (fun z18 h => ?_)
      refine k_aload_n X dX10_applies_160 1 rfl ?_
      refine k_iload_n X dX10_applies_161 4 rfl ?_
      refine k_afterP (st := [.ref (ad 0)]) (fun H locs ls hP hS hl => k_runS (As := [kI v4]) X lk_X10_128 yo_X10_bornOf rfl (kR_ok (by decide) (by decide)) (ct_X10_bornOf (kCx_j X) _ _ _ h) (Nat.le_of_ble_eq_true rfl) dX10_applies_162 hP hS hl) (fun v19 h => ?_)
      refine k_iconst X dX10_applies_165 ?_
      refine k_iadd X dX10_applies_166 ?_
      refine k_iload_n X dX10_applies_167 3 rfl ?_
      refine k_afterP (st := [kI (v19 + 1), .ref (ad 0)]) (fun H locs ls hP hS hl => k_runS (As := [kI v2]) X lk_X10_128 yo_X10_bornOf rfl (kR_ok (by decide) (by decide)) (ct_X10_bornOf (kCx_j X) _ _ _ h) (Nat.le_of_ble_eq_true rfl) dX10_applies_168 hP hS hl) (fun v20 h => ?_)
      refine k_iconst X dX10_applies_171 ?_
      refine k_sipush X dX10_applies_172 (by decide +kernel) ?_
      refine k_afterV (st := []) (fun H locs ls hP hS hl => k_runV (As := [kI (v19 + 1), kI v20, kI 0, kI 3001]) X lk_X10_131 rfl yo_X10_differ rfl (kR_ok (by decide) (by decide)) (ct_X10_differ (kCx_j X) _ _ _ _ _ _ h) (by rfl) rfl (Nat.le_of_ble_eq_true rfl) dX10_applies_175 hP hS hl) (fun z21 h => ?_)
      refine k_goto (tgt := 310) X dX10_applies_178 (by decide) ?_
      exact k_vret X hrt hlk dX10_applies_310 h
    rw [if_neg q45] at h
    by_cases q46 : v9 = 3
    · rw [if_pos q46] at h
      refine k_swin (tgt := 181) X dX10_applies_56 hr42 q46 (by decide) (by decide) rfl (by decide) ?_
      refine k_aload_n X dX10_applies_181 1 rfl ?_
      refine k_iload_n X dX10_applies_182 3 rfl ?_
      refine k_afterP (st := [.ref (ad 0)]) (fun H locs ls hP hS hl => k_runS (As := [kI v2]) X lk_X10_128 yo_X10_bornOf rfl (kR_ok (by decide) (by decide)) (ct_X10_bornOf (kCx_j X) _ _ _ h) (Nat.le_of_ble_eq_true rfl) dX10_applies_183 hP hS hl) (fun v22 h => ?_)
      refine k_iload_n X dX10_applies_186 4 rfl ?_
      refine k_afterP (st := [kI v22, .ref (ad 0)]) (fun H locs ls hP hS hl => k_runS (As := [kI v4]) X lk_X10_128 yo_X10_bornOf rfl (kR_ok (by decide) (by decide)) (ct_X10_bornOf (kCx_j X) _ _ _ h) (Nat.le_of_ble_eq_true rfl) dX10_applies_187 hP hS hl) (fun v23 h => ?_)
      refine k_bipush X dX10_applies_190 (by decide +kernel) ?_
      refine k_bipush X dX10_applies_192 (by decide +kernel) ?_
      refine k_afterV (st := []) (fun H locs ls hP hS hl => k_runV (As := [kI v22, kI v23, kI 14, kI 80]) X lk_X10_131 rfl yo_X10_differ rfl (kR_ok (by decide) (by decide)) (ct_X10_differ (kCx_j X) _ _ _ _ _ _ h) (by rfl) rfl (Nat.le_of_ble_eq_true rfl) dX10_applies_194 hP hS hl) (fun z24 h => ?_)
      refine k_aload_n X dX10_applies_197 1 rfl ?_
      refine k_iload_n X dX10_applies_198 4 rfl ?_
      refine k_afterP (st := [.ref (ad 0)]) (fun H locs ls hP hS hl => k_runS (As := [kI v4]) X lk_X10_128 yo_X10_bornOf rfl (kR_ok (by decide) (by decide)) (ct_X10_bornOf (kCx_j X) _ _ _ h) (Nat.le_of_ble_eq_true rfl) dX10_applies_199 hP hS hl) (fun v25 h => ?_)
      refine k_iconst X dX10_applies_202 ?_
      refine k_iadd X dX10_applies_203 ?_
      refine k_iload_n X dX10_applies_204 3 rfl ?_
      refine k_afterP (st := [kI (v25 + 1), .ref (ad 0)]) (fun H locs ls hP hS hl => k_runS (As := [kI v2]) X lk_X10_128 yo_X10_bornOf rfl (kR_ok (by decide) (by decide)) (ct_X10_bornOf (kCx_j X) _ _ _ h) (Nat.le_of_ble_eq_true rfl) dX10_applies_205 hP hS hl) (fun v26 h => ?_)
      refine k_iconst X dX10_applies_208 ?_
      refine k_sipush X dX10_applies_209 (by decide +kernel) ?_
      refine k_afterV (st := []) (fun H locs ls hP hS hl => k_runV (As := [kI (v25 + 1), kI v26, kI (-1), kI 3001]) X lk_X10_131 rfl yo_X10_differ rfl (kR_ok (by decide) (by decide)) (ct_X10_differ (kCx_j X) _ _ _ _ _ _ h) (by rfl) rfl (Nat.le_of_ble_eq_true rfl) dX10_applies_212 hP hS hl) (fun z27 h => ?_)
      refine k_goto (tgt := 310) X dX10_applies_215 (by decide) ?_
      exact k_vret X hrt hlk dX10_applies_310 h
    rw [if_neg q46] at h
    by_cases q47 : v9 = 4
    · rw [if_pos q47] at h
      refine k_swin (tgt := 218) X dX10_applies_56 hr42 q47 (by decide) (by decide) rfl (by decide) ?_
      refine k_aload_n X dX10_applies_218 1 rfl ?_
      refine k_iload_n X dX10_applies_219 2 rfl ?_
      refine k_afterP (st := [.ref (ad 0)]) (fun H locs ls hP hS hl => k_runS (As := [kI a1]) X lk_X10_138 yo_X10_yearOf rfl (kR_ok (by decide) (by decide)) (ct_X10_yearOf (kCx_j X) _ _ _ h) (Nat.le_of_ble_eq_true rfl) dX10_applies_220 hP hS hl) (fun v28 h => ?_)
      refine k_iload X dX10_applies_223 0 rfl ?_
      refine k_aload_n X dX10_applies_225 1 rfl ?_
      refine k_iload_n X dX10_applies_226 2 rfl ?_
      refine k_iconst X dX10_applies_227 ?_
      refine k_afterP (st := [kI v7, kI v28, .ref (ad 0)]) (fun H locs ls hP hS hl => k_runV (As := [kI a1, kI 4]) X lk_X10_76 rfl yo_X10_told rfl (kR_ok (by decide) (by decide)) (ct_X10_told (kCx_j X) _ _ _ _ h) (by rfl) rfl (Nat.le_of_ble_eq_true rfl) dX10_applies_228 hP hS hl) (fun v29 h => ?_)
      refine k_afterV (st := []) (fun H locs ls hP hS hl => k_runV (As := [kI v28, kI v7, kI v29]) X lk_X10_135 rfl yo_X10_isWithin rfl (kR_ok (by decide) (by decide)) (ct_X10_isWithin (kCx_j X) _ _ _ _ _ h) (by rfl) rfl (Nat.le_of_ble_eq_true rfl) dX10_applies_231 hP hS hl) (fun z30 h => ?_)
      refine k_aload_n X dX10_applies_234 1 rfl ?_
      refine k_iload_n X dX10_applies_235 3 rfl ?_
      refine k_iload_n X dX10_applies_236 2 rfl ?_
      refine k_afterP (st := [kI v2, .ref (ad 0)]) (fun H locs ls hP hS hl => k_runS (As := [kI a1]) X lk_X10_138 yo_X10_yearOf rfl (kR_ok (by decide) (by decide)) (ct_X10_yearOf (kCx_j X) _ _ _ h) (Nat.le_of_ble_eq_true rfl) dX10_applies_237 hP hS hl) (fun v31 h => ?_)
      refine k_afterV (st := []) (fun H locs ls hP hS hl => k_runV (As := [kI v2, kI v31]) X lk_X10_141 rfl yo_X10_weds rfl (kR_ok (by decide) (by decide)) (ct_X10_weds (kCx_j X) _ _ _ _ h) (by rfl) rfl (Nat.le_of_ble_eq_true rfl) dX10_applies_240 hP hS hl) (fun z32 h => ?_)
      refine k_aload_n X dX10_applies_243 1 rfl ?_
      refine k_iload_n X dX10_applies_244 4 rfl ?_
      refine k_iload_n X dX10_applies_245 2 rfl ?_
      refine k_afterP (st := [kI v4, .ref (ad 0)]) (fun H locs ls hP hS hl => k_runS (As := [kI a1]) X lk_X10_138 yo_X10_yearOf rfl (kR_ok (by decide) (by decide)) (ct_X10_yearOf (kCx_j X) _ _ _ h) (Nat.le_of_ble_eq_true rfl) dX10_applies_246 hP hS hl) (fun v33 h => ?_)
      refine k_afterV (st := []) (fun H locs ls hP hS hl => k_runV (As := [kI v4, kI v33]) X lk_X10_141 rfl yo_X10_weds rfl (kR_ok (by decide) (by decide)) (ct_X10_weds (kCx_j X) _ _ _ _ h) (by rfl) rfl (Nat.le_of_ble_eq_true rfl) dX10_applies_249 hP hS hl) (fun z34 h => ?_)
      refine k_goto (tgt := 310) X dX10_applies_252 (by decide) ?_
      exact k_vret X hrt hlk dX10_applies_310 h
    rw [if_neg q47] at h
    by_cases q48 : v9 = 5
    · rw [if_pos q48] at h
      refine k_swin (tgt := 310) X dX10_applies_56 hr42 q48 (by decide) (by decide) rfl (by decide) ?_
      exact k_vret X hrt hlk dX10_applies_310 h
    rw [if_neg q48] at h
    by_cases q49 : v9 = 6
    · rw [if_pos q49] at h
      refine k_swin (tgt := 255) X dX10_applies_56 hr42 q49 (by decide) (by decide) rfl (by decide) ?_
      refine k_aload_n X dX10_applies_255 1 rfl ?_
      refine k_iconst X dX10_applies_256 ?_
      refine k_iload_n X dX10_applies_257 3 rfl ?_
      refine k_afterP (st := [kI 2, .ref (ad 0)]) (fun H locs ls hP hS hl => k_runS (As := [kI v2]) X lk_X10_128 yo_X10_bornOf rfl (kR_ok (by decide) (by decide)) (ct_X10_bornOf (kCx_j X) _ _ _ h) (Nat.le_of_ble_eq_true rfl) dX10_applies_258 hP hS hl) (fun v35 h => ?_)
      refine k_imul X dX10_applies_261 ?_
      refine k_iconst X dX10_applies_262 ?_
      refine k_iadd X dX10_applies_263 ?_
      refine k_iload X dX10_applies_264 0 rfl ?_
      refine k_bipush X dX10_applies_266 (by decide +kernel) ?_
      refine k_afterV (st := []) (fun H locs ls hP hS hl => k_runV (As := [kI ((2 * v35) + 1), kI v7, kI (-5)]) X lk_X10_124 rfl yo_X10_narrows rfl (kR_ok (by decide) (by decide)) (ct_X10_narrows (kCx_j X) _ _ _ _ _ h) (by rfl) rfl (Nat.le_of_ble_eq_true rfl) dX10_applies_268 hP hS hl) (fun z36 h => ?_)
      refine k_aload_n X dX10_applies_271 1 rfl ?_
      refine k_iconst X dX10_applies_272 ?_
      refine k_iload_n X dX10_applies_273 3 rfl ?_
      refine k_afterP (st := [kI 2, .ref (ad 0)]) (fun H locs ls hP hS hl => k_runS (As := [kI v2]) X lk_X10_128 yo_X10_bornOf rfl (kR_ok (by decide) (by decide)) (ct_X10_bornOf (kCx_j X) _ _ _ h) (Nat.le_of_ble_eq_true rfl) dX10_applies_274 hP hS hl) (fun v37 h => ?_)
      refine k_iconst X dX10_applies_277 ?_
      refine k_iadd X dX10_applies_278 ?_
      refine k_imul X dX10_applies_279 ?_
      refine k_iload X dX10_applies_280 0 rfl ?_
      refine k_bipush X dX10_applies_282 (by decide +kernel) ?_
      refine k_afterV (st := []) (fun H locs ls hP hS hl => k_runV (As := [kI (2 * (v37 + 1)), kI v7, kI (-5)]) X lk_X10_124 rfl yo_X10_narrows rfl (kR_ok (by decide) (by decide)) (ct_X10_narrows (kCx_j X) _ _ _ _ _ h) (by rfl) rfl (Nat.le_of_ble_eq_true rfl) dX10_applies_284 hP hS hl) (fun z38 h => ?_)
      refine k_goto (tgt := 310) X dX10_applies_287 (by decide) ?_
      exact k_vret X hrt hlk dX10_applies_310 h
    rw [if_neg q49] at h
    by_cases q50 : v9 = 7
    · rw [if_pos q50] at h
      refine k_swin (tgt := 290) X dX10_applies_56 hr42 q50 (by decide) (by decide) rfl (by decide) ?_
      refine k_aload_n X dX10_applies_290 1 rfl ?_
      refine k_iload_n X dX10_applies_291 4 rfl ?_
      refine k_afterP (st := [.ref (ad 0)]) (fun H locs ls hP hS hl => k_runS (As := [kI v4]) X lk_X10_128 yo_X10_bornOf rfl (kR_ok (by decide) (by decide)) (ct_X10_bornOf (kCx_j X) _ _ _ h) (Nat.le_of_ble_eq_true rfl) dX10_applies_292 hP hS hl) (fun v39 h => ?_)
      refine k_iload_n X dX10_applies_295 3 rfl ?_
      refine k_afterP (st := [kI v39, .ref (ad 0)]) (fun H locs ls hP hS hl => k_runS (As := [kI v2]) X lk_X10_128 yo_X10_bornOf rfl (kR_ok (by decide) (by decide)) (ct_X10_bornOf (kCx_j X) _ _ _ h) (Nat.le_of_ble_eq_true rfl) dX10_applies_296 hP hS hl) (fun v40 h => ?_)
      refine k_iload X dX10_applies_299 0 rfl ?_
      refine k_sipush X dX10_applies_301 (by decide +kernel) ?_
      refine k_afterV (st := []) (fun H locs ls hP hS hl => k_runV (As := [kI v39, kI v40, kI v7, kI 3001]) X lk_X10_131 rfl yo_X10_differ rfl (kR_ok (by decide) (by decide)) (ct_X10_differ (kCx_j X) _ _ _ _ _ _ h) (by rfl) rfl (Nat.le_of_ble_eq_true rfl) dX10_applies_304 hP hS hl) (fun z41 h => ?_)
      refine k_goto (tgt := 310) X dX10_applies_307 (by decide) ?_
      exact k_vret X hrt hlk dX10_applies_310 h
    rw [if_neg q50] at h
    refine k_swout (tgt := 310) X dX10_applies_56 hr42 (by omega) (by decide) ?_
    exact k_vret X hrt hlk dX10_applies_310 h
  · refine k_if_ge (tgt := 25) X dX10_applies_18 (by decide) h (fun h => ?_) (fun h => ?_)
    · refine k_aload_n X dX10_applies_25 1 rfl ?_
      refine k_getR (t := 6) X fk_X10_27 (by rfl) (by decide) rfl dX10_applies_26 ?_
      refine k_aload_n X dX10_applies_29 1 rfl ?_
      refine k_iload_n X dX10_applies_30 2 rfl ?_
      refine k_iconst X dX10_applies_31 ?_
      refine k_afterP (st := [.ref (ad 6)]) (fun H locs ls hP hS hl => k_runV (As := [kI a1, kI 2]) X lk_X10_76 rfl yo_X10_told rfl (kR_ok (by decide) (by decide)) (ct_X10_told (kCx_j X) _ _ _ _ h) (by rfl) rfl (Nat.le_of_ble_eq_true rfl) dX10_applies_32 hP hS hl) (fun v51 h => ?_)
      refine k_iald X kzM_6 (Nat.le_of_ble_eq_true rfl) dX10_applies_35 h (fun h => ?_)
      refine k_istore_n X dX10_applies_36 h (fun v52 => [(3, kI v52), (2, kI v2), (0, .ref (ad 0)), (1, kI a1)]) (by decide) (fun _ => rfl) (fun v52 h => ?_)
      exact k_sub [2, 3, 1, 0] rfl (hJ5 _ h)
    · refine k_iload_n X dX10_applies_21 0 rfl ?_
      refine k_goto (tgt := 36) X dX10_applies_22 (by decide) ?_
      refine k_istore_n X dX10_applies_36 h (fun v53 => [(3, kI v53), (2, kI v2), (0, .ref (ad 0)), (1, kI a1)]) (by decide) (fun _ => rfl) (fun v53 h => ?_)
      exact k_sub [2, 3, 1, 0] rfl (hJ5 _ h)
set_option maxHeartbeats 4000000 in
set_option maxRecDepth 100000 in
theorem ct_X10_letterOf {l : Launch} {D : va_G} {cA : Nat → ClassId} {ad sa : Nat → Nat} (hj : kInj NM ad) (a1 : Int) (a2 : Int) (z : Hp) (Kp : Int → Prop) (h : cal_X10_letterOf a1 a2 z Kp) : kMet l yX10_letterOf cX10_letterOf 3 (some .int) 0 NM kdM D cA ad sa [.ref (ad 0), kI a1, kI a2] z (kQi NM kdM D cA ad (fun v z1 => z1 = z ∧ Kp v)) := by
  unfold cal_X10_letterOf at h
  refine k_met (cc := cX10_letterOf) (own := RX10) (nL := 3) rfl rfl (Nat.le_of_ble_eq_true rfl) hj kltM (fun p e s m below meth c X hrt hlk => ?_)
  refine k_sub (lv' := [(0, .ref (ad 0)), (1, kI a1), (2, kI a2)]) [0, 1, 2] rfl ?_
  refine k_aload_n X dX10_letterOf_0 0 rfl ?_
  refine k_getR (t := 1) X fk_X10_11 (by rfl) (by decide) rfl dX10_letterOf_1 ?_
  refine k_iconst X dX10_letterOf_4 ?_
  refine k_bipush X dX10_letterOf_5 (by decide +kernel) ?_
  refine k_iload_n X dX10_letterOf_7 1 rfl ?_
  refine k_imul X dX10_letterOf_8 ?_
  refine k_iadd X dX10_letterOf_9 ?_
  refine k_iload_n X dX10_letterOf_10 2 rfl ?_
  refine k_iadd X dX10_letterOf_11 ?_
  refine k_iald X kzM_1 (Nat.le_of_ble_eq_true rfl) dX10_letterOf_12 h (fun h => ?_)
  exact k_iret X hrt hlk dX10_letterOf_13 ⟨rfl, h⟩
set_option maxHeartbeats 4000000 in
set_option maxRecDepth 100000 in
theorem ct_X10_compares {l : Launch} {D : va_G} {cA : Nat → ClassId} {ad sa : Nat → Nat} (hj : kInj NM ad) (a1 : Int) (a2 : Int) (z : Hp) (Kp : Int → Prop) (h : cal_X10_compares a1 a2 z Kp) : kMet l yX10_compares cX10_compares 4 (some .int) 1 NM kdM D cA ad sa [.ref (ad 0), kI a1, kI a2] z (kQi NM kdM D cA ad (fun v z1 => z1 = z ∧ Kp v)) := by
  unfold cal_X10_compares at h
  refine k_met (cc := cX10_compares) (own := RX10) (nL := 4) rfl rfl (Nat.le_of_ble_eq_true rfl) hj kltM (fun p e s m below meth c X hrt hlk => ?_)
  refine k_sub (lv' := [(0, .ref (ad 0)), (1, kI a1), (2, kI a2)]) [0, 1, 2] rfl ?_
  refine k_iconst X dX10_compares_0 ?_
  refine k_istore_n X dX10_compares_1 h (fun v1 => [(3, kI v1), (0, .ref (ad 0)), (1, kI a1), (2, kI a2)]) (by decide) (fun _ => rfl) (fun v1 h => ?_)
  refine k_sub (lv' := [(0, .ref (ad 0)), (1, kI a1), (2, kI a2), (3, kI v1)]) [1, 2, 3, 0] rfl ?_
  refine h (fun v3 => kAt p l e (kR 1) s m ([.ref (ad 0), kI a1, kI a2] : List Value).toArray below meth c (MQ below (kQi NM kdM D cA ad (fun v z1 => z1 = z ∧ Kp v)) ([.ref (ad 0), kI a1, kI a2] : List Value).toArray s 0 0 (kA NM ad)) 4 NM kdM D cA ad 2 [(0, .ref (ad 0)), (1, kI a1), (2, kI a2), (3, kI v3)] [] z) (fun v3 h => ?_)
  refine k_iload_n X dX10_compares_2 3 rfl ?_
  refine k_bipush X dX10_compares_3 (by decide +kernel) ?_
  refine k_icmp_ge (tgt := 43) X dX10_compares_5 (by decide) ⟨h.1, ⟨by decide, by decide⟩, h.2⟩ (fun h => ?_) (fun h => ?_)
  · refine k_iconst X dX10_compares_43 ?_
    exact k_iret X hrt hlk dX10_compares_44 ⟨rfl, h⟩
  · refine k_aload_n X dX10_compares_8 0 rfl ?_
    refine k_iload_n X dX10_compares_9 1 rfl ?_
    refine k_iload_n X dX10_compares_10 3 rfl ?_
    refine k_afterP (st := []) (fun H locs ls hP hS hl => k_runV (As := [kI a1, kI v3]) X lk_X10_219 rfl yo_X10_letterOf rfl (kR_ok (by decide) (by decide)) (ct_X10_letterOf (kCx_j X) _ _ _ _ h) (by rfl) rfl (Nat.le_of_ble_eq_true rfl) dX10_compares_11 hP hS hl) (fun v4 h => ?_)
    refine k_aload_n X dX10_compares_14 0 rfl ?_
    refine k_iload_n X dX10_compares_15 2 rfl ?_
    refine k_iload_n X dX10_compares_16 3 rfl ?_
    refine k_afterP (st := [kI v4]) (fun H locs ls hP hS hl => k_runV (As := [kI a2, kI v3]) X lk_X10_219 rfl yo_X10_letterOf rfl (kR_ok (by decide) (by decide)) (ct_X10_letterOf (kCx_j X) _ _ _ _ h) (by rfl) rfl (Nat.le_of_ble_eq_true rfl) dX10_compares_17 hP hS hl) (fun v5 h => ?_)
    refine k_icmp_eq (tgt := 37) X dX10_compares_20 (by decide) h (fun h => ?_) (fun h => ?_)
    · refine k_iinc X dX10_compares_37 3 rfl h (fun v6 => [(3, kI v6), (0, .ref (ad 0)), (1, kI a1), (2, kI a2)]) (by decide) (fun _ => rfl) (fun v6 h => ?_)
      refine k_goto (tgt := 2) X dX10_compares_40 (by decide) ?_
      exact k_sub [1, 2, 3, 0] rfl h
    · refine k_aload_n X dX10_compares_23 0 rfl ?_
      refine k_iload_n X dX10_compares_24 1 rfl ?_
      refine k_iload_n X dX10_compares_25 3 rfl ?_
      refine k_afterP (st := []) (fun H locs ls hP hS hl => k_runV (As := [kI a1, kI v3]) X lk_X10_219 rfl yo_X10_letterOf rfl (kR_ok (by decide) (by decide)) (ct_X10_letterOf (kCx_j X) _ _ _ _ h) (by rfl) rfl (Nat.le_of_ble_eq_true rfl) dX10_compares_26 hP hS hl) (fun v7 h => ?_)
      refine k_aload_n X dX10_compares_29 0 rfl ?_
      refine k_iload_n X dX10_compares_30 2 rfl ?_
      refine k_iload_n X dX10_compares_31 3 rfl ?_
      refine k_afterP (st := [kI v7]) (fun H locs ls hP hS hl => k_runV (As := [kI a2, kI v3]) X lk_X10_219 rfl yo_X10_letterOf rfl (kR_ok (by decide) (by decide)) (ct_X10_letterOf (kCx_j X) _ _ _ _ h) (by rfl) rfl (Nat.le_of_ble_eq_true rfl) dX10_compares_32 hP hS hl) (fun v8 h => ?_)
      refine k_isub X dX10_compares_35 ?_
      exact k_iret X hrt hlk dX10_compares_36 ⟨rfl, h⟩
set_option maxHeartbeats 4000000 in
set_option maxRecDepth 100000 in
theorem ct_X10_byName {l : Launch} {D : va_G} {cA : Nat → ClassId} {ad sa : Nat → Nat} (hj : kInj NM ad) (a1 : Int) (z : Hp) (Kp : Int → Prop) (h : cal_X10_byName a1 z Kp) : kMet l yX10_byName cX10_byName 5 (some .int) 2 NM kdM D cA ad sa [.ref (ad 0), kI a1] z (kQi NM kdM D cA ad (fun v z1 => z1 = z ∧ Kp v)) := by
  unfold cal_X10_byName at h
  refine k_met (cc := cX10_byName) (own := RX10) (nL := 5) rfl rfl (Nat.le_of_ble_eq_true rfl) hj kltM (fun p e s m below meth c X hrt hlk => ?_)
  refine k_sub (lv' := [(0, .ref (ad 0)), (1, kI a1)]) [0, 1] rfl ?_
  refine k_iconst X dX10_byName_0 ?_
  refine k_istore_n X dX10_byName_1 h (fun v1 => [(2, kI v1), (0, .ref (ad 0)), (1, kI a1)]) (by decide) (fun _ => rfl) (fun v1 h => ?_)
  refine k_sub (lv' := [(0, .ref (ad 0)), (1, kI a1), (2, kI v1)]) [1, 2, 0] rfl ?_
  refine h (fun v3 => kAt p l e (kR 2) s m ([.ref (ad 0), kI a1] : List Value).toArray below meth c (MQ below (kQi NM kdM D cA ad (fun v z1 => z1 = z ∧ Kp v)) ([.ref (ad 0), kI a1] : List Value).toArray s 0 0 (kA NM ad)) 5 NM kdM D cA ad 2 [(0, .ref (ad 0)), (1, kI a1), (2, kI v3)] [] z) (fun v3 h => ?_)
  refine k_iload_n X dX10_byName_2 2 rfl ?_
  refine k_aload_n X dX10_byName_3 0 rfl ?_
  refine k_getR (t := 1) X fk_X10_11 (by rfl) (by decide) rfl dX10_byName_4 ?_
  refine k_iconst X dX10_byName_7 ?_
  refine k_iald X kzM_1 (Nat.le_of_ble_eq_true rfl) dX10_byName_8 ⟨⟨by decide, by decide⟩, h⟩ (fun h => ?_)
  refine k_icmp_ge (tgt := 81) X dX10_byName_9 (by decide) h (fun h => ?_) (fun h => ?_)
  · refine k_iconst X dX10_byName_81 ?_
    exact k_iret X hrt hlk dX10_byName_82 ⟨rfl, h⟩
  · refine k_iconst X dX10_byName_12 ?_
    refine k_istore_n X dX10_byName_13 h (fun v4 => [(3, kI v4), (0, .ref (ad 0)), (1, kI a1), (2, kI v3)]) (by decide) (fun _ => rfl) (fun v4 h => ?_)
    refine k_iconst X dX10_byName_14 ?_
    refine k_istore X dX10_byName_15 h (fun v5 => [(4, kI v5), (3, kI v4), (0, .ref (ad 0)), (1, kI a1), (2, kI v3)]) (by decide) (fun _ => rfl) (fun v5 h => ?_)
    refine k_sub (lv' := [(0, .ref (ad 0)), (1, kI a1), (2, kI v3), (3, kI v4), (4, kI v5)]) [2, 3, 4, 1, 0] rfl ?_
    refine h (fun v7 v8 => kAt p l e (kR 2) s m ([.ref (ad 0), kI a1] : List Value).toArray below meth c (MQ below (kQi NM kdM D cA ad (fun v z1 => z1 = z ∧ Kp v)) ([.ref (ad 0), kI a1] : List Value).toArray s 0 0 (kA NM ad)) 5 NM kdM D cA ad 17 [(0, .ref (ad 0)), (1, kI a1), (2, kI v3), (3, kI v7), (4, kI v8)] [] z) (fun v7 v8 h => ?_)
    refine k_iload X dX10_byName_17 4 rfl ?_
    refine k_aload_n X dX10_byName_19 0 rfl ?_
    refine k_getR (t := 1) X fk_X10_11 (by rfl) (by decide) rfl dX10_byName_20 ?_
    refine k_iconst X dX10_byName_23 ?_
    refine k_iald X kzM_1 (Nat.le_of_ble_eq_true rfl) dX10_byName_24 ⟨⟨by decide, by decide⟩, h⟩ (fun h => ?_)
    refine k_icmp_ge (tgt := 68) X dX10_byName_25 (by decide) h (fun h => ?_) (fun h => ?_)
    · refine k_iload_n X dX10_byName_68 3 rfl ?_
      refine k_iload_n X dX10_byName_69 1 rfl ?_
      refine k_icmp_ne (tgt := 75) X dX10_byName_70 (by decide) h (fun h => ?_) (fun h => ?_)
      · refine k_iinc X dX10_byName_75 2 rfl h (fun v9 => [(2, kI v9), (0, .ref (ad 0)), (1, kI a1), (3, kI v7), (4, kI v8)]) (by decide) (fun _ => rfl) (fun v9 h => ?_)
        refine k_goto (tgt := 2) X dX10_byName_78 (by decide) ?_
        exact k_sub [1, 2, 0] rfl h
      · refine k_iload_n X dX10_byName_73 2 rfl ?_
        exact k_iret X hrt hlk dX10_byName_74 ⟨rfl, h⟩
    · refine k_iload_n X dX10_byName_28 3 rfl ?_
      refine k_aload_n X dX10_byName_29 0 rfl ?_
      refine k_iload X dX10_byName_30 4 rfl ?_
      refine k_iload_n X dX10_byName_32 2 rfl ?_
      refine k_afterP (st := [kI v7]) (fun H locs ls hP hS hl => k_runV (As := [kI v8, kI v3]) X lk_X10_225 rfl yo_X10_compares rfl (kR_ok (by decide) (by decide)) (ct_X10_compares (kCx_j X) _ _ _ _ h) (by rfl) rfl (Nat.le_of_ble_eq_true rfl) dX10_byName_33 hP hS hl) (fun v10 h => ?_)
      refine jn_use (fun J12 => ∀ (v11 : Int), J12 v11 → kAt p l e (kR 2) s m ([.ref (ad 0), kI a1] : List Value).toArray below meth c (MQ below (kQi NM kdM D cA ad (fun v z1 => z1 = z ∧ Kp v)) ([.ref (ad 0), kI a1] : List Value).toArray s 0 0 (kA NM ad)) 5 NM kdM D cA ad 62 [(0, .ref (ad 0)), (1, kI a1), (2, kI v3), (3, kI v11), (4, kI v8)] [] z) h ?_ (fun J12 hJ12 h => ?_)
      · intro v11 h
        refine k_iinc X dX10_byName_62 4 rfl h (fun v13 => [(4, kI v13), (0, .ref (ad 0)), (1, kI a1), (2, kI v3), (3, kI v11)]) (by decide) (fun _ => rfl) (fun v13 h => ?_)
        refine k_goto (tgt := 17) X dX10_byName_65 (by decide) ?_
        exact k_sub [1, 2, 3, 4, 0] rfl h
      · refine k_if_lt (tgt := 55) X dX10_byName_36 (by decide) h (fun h => ?_) (fun h => ?_)
        · refine k_iconst X dX10_byName_55 ?_
          refine k_goto (tgt := 60) X dX10_byName_56 (by decide) ?_
          refine k_iadd X dX10_byName_60 ?_
          refine k_istore_n X dX10_byName_61 h (fun v14 => [(3, kI v14), (0, .ref (ad 0)), (1, kI a1), (2, kI v3), (4, kI v8)]) (by decide) (fun _ => rfl) (fun v14 h => ?_)
          exact k_sub [1, 2, 3, 0, 4] rfl (hJ12 _ h)
        · refine k_aload_n X dX10_byName_39 0 rfl ?_
          refine k_iload X dX10_byName_40 4 rfl ?_
          refine k_iload_n X dX10_byName_42 2 rfl ?_
          refine k_afterP (st := [kI v7]) (fun H locs ls hP hS hl => k_runV (As := [kI v8, kI v3]) X lk_X10_225 rfl yo_X10_compares rfl (kR_ok (by decide) (by decide)) (ct_X10_compares (kCx_j X) _ _ _ _ h) (by rfl) rfl (Nat.le_of_ble_eq_true rfl) dX10_byName_43 hP hS hl) (fun v15 h => ?_)
          refine k_if_ne (tgt := 59) X dX10_byName_46 (by decide) h (fun h => ?_) (fun h => ?_)
          · refine k_iconst X dX10_byName_59 ?_
            refine k_iadd X dX10_byName_60 ?_
            refine k_istore_n X dX10_byName_61 h (fun v16 => [(3, kI v16), (0, .ref (ad 0)), (1, kI a1), (2, kI v3), (4, kI v8)]) (by decide) (fun _ => rfl) (fun v16 h => ?_)
            exact k_sub [1, 2, 3, 0, 4] rfl (hJ12 _ h)
          · refine k_iload X dX10_byName_49 4 rfl ?_
            refine k_iload_n X dX10_byName_51 2 rfl ?_
            refine k_icmp_ge (tgt := 59) X dX10_byName_52 (by decide) h (fun h => ?_) (fun h => ?_)
            · refine k_iconst X dX10_byName_59 ?_
              refine k_iadd X dX10_byName_60 ?_
              refine k_istore_n X dX10_byName_61 h (fun v17 => [(3, kI v17), (0, .ref (ad 0)), (1, kI a1), (2, kI v3), (4, kI v8)]) (by decide) (fun _ => rfl) (fun v17 h => ?_)
              exact k_sub [1, 2, 3, 0, 4] rfl (hJ12 _ h)
            · refine k_iconst X dX10_byName_55 ?_
              refine k_goto (tgt := 60) X dX10_byName_56 (by decide) ?_
              refine k_iadd X dX10_byName_60 ?_
              refine k_istore_n X dX10_byName_61 h (fun v18 => [(3, kI v18), (0, .ref (ad 0)), (1, kI a1), (2, kI v3), (4, kI v8)]) (by decide) (fun _ => rfl) (fun v18 h => ?_)
              exact k_sub [1, 2, 3, 0, 4] rfl (hJ12 _ h)
set_option maxHeartbeats 4000000 in
set_option maxRecDepth 100000 in
theorem ct_X10_childrenOf {l : Launch} {D : va_G} {cA : Nat → ClassId} {ad sa : Nat → Nat} (hj : kInj NM ad) (a1 : Int) (z : Hp) (Kp : Int → Prop) (h : cal_X10_childrenOf a1 z Kp) : kMet l yX10_childrenOf cX10_childrenOf 4 (some .int) 1 NM kdM D cA ad sa [.ref (ad 0), kI a1] z (kQi NM kdM D cA ad (fun v z1 => z1 = z ∧ Kp v)) := by
  unfold cal_X10_childrenOf at h
  refine k_met (cc := cX10_childrenOf) (own := RX10) (nL := 4) rfl rfl (Nat.le_of_ble_eq_true rfl) hj kltM (fun p e s m below meth c X hrt hlk => ?_)
  refine k_sub (lv' := [(0, .ref (ad 0)), (1, kI a1)]) [0, 1] rfl ?_
  refine k_iconst X dX10_childrenOf_0 ?_
  refine k_istore_n X dX10_childrenOf_1 h (fun v1 => [(2, kI v1), (0, .ref (ad 0)), (1, kI a1)]) (by decide) (fun _ => rfl) (fun v1 h => ?_)
  refine k_iconst X dX10_childrenOf_2 ?_
  refine k_istore_n X dX10_childrenOf_3 h (fun v2 => [(3, kI v2), (2, kI v1), (0, .ref (ad 0)), (1, kI a1)]) (by decide) (fun _ => rfl) (fun v2 h => ?_)
  refine k_sub (lv' := [(0, .ref (ad 0)), (1, kI a1), (2, kI v1), (3, kI v2)]) [2, 3, 1, 0] rfl ?_
  refine h (fun v4 v5 => kAt p l e (kR 1) s m ([.ref (ad 0), kI a1] : List Value).toArray below meth c (MQ below (kQi NM kdM D cA ad (fun v z1 => z1 = z ∧ Kp v)) ([.ref (ad 0), kI a1] : List Value).toArray s 0 0 (kA NM ad)) 4 NM kdM D cA ad 4 [(0, .ref (ad 0)), (1, kI a1), (2, kI v4), (3, kI v5)] [] z) (fun v4 v5 h => ?_)
  refine k_iload_n X dX10_childrenOf_4 3 rfl ?_
  refine k_aload_n X dX10_childrenOf_5 0 rfl ?_
  refine k_getR (t := 1) X fk_X10_11 (by rfl) (by decide) rfl dX10_childrenOf_6 ?_
  refine k_iconst X dX10_childrenOf_9 ?_
  refine k_iald X kzM_1 (Nat.le_of_ble_eq_true rfl) dX10_childrenOf_10 ⟨⟨by decide, by decide⟩, h⟩ (fun h => ?_)
  refine k_icmp_ge (tgt := 50) X dX10_childrenOf_11 (by decide) h (fun h => ?_) (fun h => ?_)
  · refine k_iload_n X dX10_childrenOf_50 2 rfl ?_
    exact k_iret X hrt hlk dX10_childrenOf_51 ⟨rfl, h⟩
  · refine k_iload_n X dX10_childrenOf_14 2 rfl ?_
    refine k_aload_n X dX10_childrenOf_15 0 rfl ?_
    refine k_getR (t := 7) X fk_X10_30 (by rfl) (by decide) rfl dX10_childrenOf_16 ?_
    refine k_iload_n X dX10_childrenOf_19 3 rfl ?_
    refine k_iald X kzM_7 (Nat.le_of_ble_eq_true rfl) dX10_childrenOf_20 h (fun h => ?_)
    refine k_aload_n X dX10_childrenOf_21 0 rfl ?_
    refine k_getR (t := 8) X fk_X10_33 (by rfl) (by decide) rfl dX10_childrenOf_22 ?_
    refine k_iload_n X dX10_childrenOf_25 3 rfl ?_
    refine k_iald X kzM_8 (Nat.le_of_ble_eq_true rfl) dX10_childrenOf_26 h (fun h => ?_)
    refine k_ior X dX10_childrenOf_27 ?_
    refine k_iload_n X dX10_childrenOf_28 1 rfl ?_
    refine k_afterP (st := [kI v4]) (fun H locs ls hP hS hl => k_runS (As := [kI (ior (z 7 v5.toNat) (z 8 v5.toNat)), kI a1]) X lk_X10_89 yo_X10_has rfl (kR_ok (by decide) (by decide)) (ct_X10_has (kCx_j X) _ _ _ _ h) (Nat.le_of_ble_eq_true rfl) dX10_childrenOf_29 hP hS hl) (fun v6 h => ?_)
    refine jn_use (fun J8 => ∀ (v7 : Int), J8 v7 → kAt p l e (kR 1) s m ([.ref (ad 0), kI a1] : List Value).toArray below meth c (MQ below (kQi NM kdM D cA ad (fun v z1 => z1 = z ∧ Kp v)) ([.ref (ad 0), kI a1] : List Value).toArray s 0 0 (kA NM ad)) 4 NM kdM D cA ad 44 [(0, .ref (ad 0)), (1, kI a1), (2, kI v7), (3, kI v5)] [] z) h ?_ (fun J8 hJ8 h => ?_)
    · intro v7 h
      refine k_iinc X dX10_childrenOf_44 3 rfl h (fun v9 => [(3, kI v9), (0, .ref (ad 0)), (1, kI a1), (2, kI v7)]) (by decide) (fun _ => rfl) (fun v9 h => ?_)
      refine k_goto (tgt := 4) X dX10_childrenOf_47 (by decide) ?_
      exact k_sub [1, 2, 3, 0] rfl h
    · refine k_if_eq (tgt := 41) X dX10_childrenOf_32 (by decide) h (fun h => ?_) (fun h => ?_)
      · refine k_iconst X dX10_childrenOf_41 ?_
        refine k_ior X dX10_childrenOf_42 ?_
        refine k_istore_n X dX10_childrenOf_43 h (fun v10 => [(2, kI v10), (0, .ref (ad 0)), (1, kI a1), (3, kI v5)]) (by decide) (fun _ => rfl) (fun v10 h => ?_)
        exact k_sub [1, 2, 0, 3] rfl (hJ8 _ h)
      · refine k_iconst X dX10_childrenOf_35 ?_
        refine k_iload_n X dX10_childrenOf_36 3 rfl ?_
        refine k_ishl X dX10_childrenOf_37 ?_
        refine k_goto (tgt := 42) X dX10_childrenOf_38 (by decide) ?_
        refine k_ior X dX10_childrenOf_42 ?_
        refine k_istore_n X dX10_childrenOf_43 h (fun v11 => [(2, kI v11), (0, .ref (ad 0)), (1, kI a1), (3, kI v5)]) (by decide) (fun _ => rfl) (fun v11 h => ?_)
        exact k_sub [1, 2, 0, 3] rfl (hJ8 _ h)
set_option maxHeartbeats 4000000 in
set_option maxRecDepth 100000 in
theorem ct_X10_toldRange {l : Launch} {D : va_G} {cA : Nat → ClassId} {ad sa : Nat → Nat} (hj : kInj NM ad) (a1 : Int) (z : Hp) (Kp : Int → Prop) (h : cal_X10_toldRange a1 z Kp) : kMet l yX10_toldRange cX10_toldRange 1 (some .int) 0 NM kdM D cA ad sa [kI a1] z (kQi NM kdM D cA ad (fun v z1 => z1 = z ∧ Kp v)) := by
  unfold cal_X10_toldRange at h
  refine k_met (cc := cX10_toldRange) (own := RX10) (nL := 1) rfl rfl (Nat.le_of_ble_eq_true rfl) hj kltM (fun p e s m below meth c X hrt hlk => ?_)
  refine k_sub (lv' := [(0, kI a1)]) [0] rfl ?_
  refine k_iload_n X dX10_toldRange_0 0 rfl ?_
  refine k_bipush X dX10_toldRange_1 (by decide +kernel) ?_
  refine k_icmp_ge (tgt := 10) X dX10_toldRange_3 (by decide) ⟨h.1, ⟨by decide, by decide⟩, h.2⟩ (fun h => ?_) (fun h => ?_)
  · refine k_sipush X dX10_toldRange_10 (by decide +kernel) ?_
    refine k_iload_n X dX10_toldRange_13 0 rfl ?_
    refine k_iadd X dX10_toldRange_14 ?_
    refine k_bipush X dX10_toldRange_15 (by decide +kernel) ?_
    refine k_isub X dX10_toldRange_17 ?_
    exact k_iret X hrt hlk dX10_toldRange_18 ⟨rfl, h⟩
  · refine k_iload_n X dX10_toldRange_6 0 rfl ?_
    refine k_goto (tgt := 18) X dX10_toldRange_7 (by decide) ?_
    exact k_iret X hrt hlk dX10_toldRange_18 ⟨rfl, h⟩
set_option maxHeartbeats 4000000 in
set_option maxRecDepth 100000 in
theorem ct_X10_clash {l : Launch} {D : va_G} {cA : Nat → ClassId} {ad sa : Nat → Nat} (hj : kInj NM ad) (a1 : Int) (z : Hp) (Kp : Int → Prop) (h : cal_X10_clash a1 z Kp) : kMet l yX10_clash cX10_clash 2 (some .int) 1 NM kdM D cA ad sa [.ref (ad 0), kI a1] z (kQi NM kdM D cA ad (fun v z1 => z1 = z ∧ Kp v)) := by
  unfold cal_X10_clash at h
  refine k_met (cc := cX10_clash) (own := RX10) (nL := 2) rfl rfl (Nat.le_of_ble_eq_true rfl) hj kltM (fun p e s m below meth c X hrt hlk => ?_)
  refine k_sub (lv' := [(0, .ref (ad 0)), (1, kI a1)]) [0, 1] rfl ?_
  refine k_iload_n X dX10_clash_0 1 rfl ?_
  refine k_iconst X dX10_clash_1 ?_
  refine k_iconst X dX10_clash_2 ?_
  refine k_afterP (st := []) (fun H locs ls hP hS hl => k_runS (As := [kI a1, kI 0, kI 1]) X lk_X10_72 yo_X10_isIn rfl (kR_ok (by decide) (by decide)) (ct_X10_isIn (kCx_j X) _ _ _ _ _ h) (Nat.le_of_ble_eq_true rfl) dX10_clash_3 hP hS hl) (fun v1 h => ?_)
  refine k_if_ne (tgt := 11) X dX10_clash_6 (by decide) h (fun h => ?_) (fun h => ?_)
  · refine k_iload_n X dX10_clash_11 1 rfl ?_
    refine k_if_ne (tgt := 22) X dX10_clash_12 (by decide) h (fun h => ?_) (fun h => ?_)
    · refine k_aload_n X dX10_clash_22 0 rfl ?_
      refine k_getI X fk_X10_96 (by rfl) rfl dX10_clash_23 ?_
      refine k_iconst X dX10_clash_26 ?_
      refine k_icmp_ne (tgt := 40) X dX10_clash_27 (by decide) ⟨h.1, ⟨by decide, by decide⟩, h.2⟩ (fun h => ?_) (fun h => ?_)
      · refine k_aload_n X dX10_clash_40 0 rfl ?_
        refine k_getI X fk_X10_100 (by rfl) rfl dX10_clash_41 ?_
        exact k_iret X hrt hlk dX10_clash_44 ⟨rfl, h⟩
      · refine k_aload_n X dX10_clash_30 0 rfl ?_
        refine k_getI X fk_X10_100 (by rfl) rfl dX10_clash_31 ?_
        refine k_afterP (st := []) (fun H locs ls hP hS hl => k_runS (As := [kI (z 0 18)]) X lk_X10_249 yo_X10_toldRange rfl (kR_ok (by decide) (by decide)) (ct_X10_toldRange (kCx_j X) _ _ _ h) (Nat.le_of_ble_eq_true rfl) dX10_clash_34 hP hS hl) (fun v2 h => ?_)
        refine k_goto (tgt := 44) X dX10_clash_37 (by decide) ?_
        exact k_iret X hrt hlk dX10_clash_44 ⟨rfl, h⟩
    · refine k_aload_n X dX10_clash_15 0 rfl ?_
      refine k_getI X fk_X10_96 (by rfl) rfl dX10_clash_16 ?_
      refine k_goto (tgt := 44) X dX10_clash_19 (by decide) ?_
      exact k_iret X hrt hlk dX10_clash_44 ⟨rfl, h⟩
  · refine k_iconst X dX10_clash_9 ?_
    exact k_iret X hrt hlk dX10_clash_10 ⟨rfl, h⟩
set_option maxHeartbeats 4000000 in
set_option maxRecDepth 100000 in
theorem ct_X10_clashes {l : Launch} {D : va_G} {cA : Nat → ClassId} {ad sa : Nat → Nat} (hj : kInj NM ad) (a1 : Int) (a2 : Int) (z : Hp) (Kp : Hp → Prop) (h : cal_X10_clashes a1 a2 z Kp) : kMet l yX10_clashes cX10_clashes 3 none 0 NM kdM D cA ad sa [.ref (ad 0), kI a1, kI a2] z (kQv NM kdM D cA ad Kp) := by
  unfold cal_X10_clashes at h
  refine k_met (cc := cX10_clashes) (own := RX10) (nL := 3) rfl rfl (Nat.le_of_ble_eq_true rfl) hj kltM (fun p e s m below meth c X hrt hlk => ?_)
  refine k_sub (lv' := [(0, .ref (ad 0)), (1, kI a1), (2, kI a2)]) [0, 1, 2] rfl ?_
  refine k_aload_n X dX10_clashes_0 0 rfl ?_
  refine k_getI X fk_X10_96 (by rfl) rfl dX10_clashes_1 ?_
  refine k_if_eq (tgt := 8) X dX10_clashes_4 (by decide) h (fun h => ?_) (fun h => ?_)
  · refine k_aload_n X dX10_clashes_8 0 rfl ?_
    refine k_iload_n X dX10_clashes_9 1 rfl ?_
    refine k_putI X fp_X10_96 (by rfl) rfl dX10_clashes_10 (k_nameH h (fun z1 h => ?_))
    refine k_aload_n X dX10_clashes_13 0 rfl ?_
    refine k_iload_n X dX10_clashes_14 2 rfl ?_
    refine k_putI X fp_X10_100 (by rfl) rfl dX10_clashes_15 (k_nameH h (fun z2 h => ?_))
    exact k_vret X hrt hlk dX10_clashes_18 h
  · exact k_vret X hrt hlk dX10_clashes_7 h
set_option maxHeartbeats 4000000 in
set_option maxRecDepth 100000 in
theorem ct_X10_clear {l : Launch} {D : va_G} {cA : Nat → ClassId} {ad sa : Nat → Nat} (hj : kInj NM ad)  (z : Hp) (Kp : Int → Hp → Prop) (h : cal_X10_clear  z Kp) : kMet l yX10_clear cX10_clear 2 (some .int) 0 NM kdM D cA ad sa [.ref (ad 0)] z (kQi NM kdM D cA ad Kp) := by
  unfold cal_X10_clear at h
  refine k_met (cc := cX10_clear) (own := RX10) (nL := 2) rfl rfl (Nat.le_of_ble_eq_true rfl) hj kltM (fun p e s m below meth c X hrt hlk => ?_)
  refine k_sub (lv' := [(0, .ref (ad 0))]) [0] rfl ?_
  refine k_aload_n X dX10_clear_0 0 rfl ?_
  refine k_getI X fk_X10_160 (by rfl) rfl dX10_clear_1 ?_
  refine k_istore_n X dX10_clear_4 h (fun v1 => [(1, kI v1), (0, .ref (ad 0))]) (by decide) (fun _ => rfl) (fun v1 h => ?_)
  refine k_aload_n X dX10_clear_5 1 rfl ?_
  refine k_iconst X dX10_clear_6 ?_
  refine k_putI X fp_X10_160 (by rfl) rfl dX10_clear_7 (k_nameH h (fun z2 h => ?_))
  refine k_iload_n X dX10_clear_10 0 rfl ?_
  exact k_iret X hrt hlk dX10_clear_11 h
set_option maxHeartbeats 4000000 in
set_option maxRecDepth 100000 in
theorem ct_X10_isOne {l : Launch} {D : va_G} {cA : Nat → ClassId} {ad sa : Nat → Nat} (hj : kInj NM ad) (a1 : Int) (z : Hp) (Kp : Int → Prop) (h : cal_X10_isOne a1 z Kp) : kMet l yX10_isOne cX10_isOne 2 (some .boolean) 0 NM kdM D cA ad sa [.ref (ad 0), kI a1] z (kQi NM kdM D cA ad (fun v z1 => z1 = z ∧ Kp v)) := by
  unfold cal_X10_isOne at h
  refine k_met (cc := cX10_isOne) (own := RX10) (nL := 2) rfl rfl (Nat.le_of_ble_eq_true rfl) hj kltM (fun p e s m below meth c X hrt hlk => ?_)
  refine k_sub (lv' := [(0, .ref (ad 0)), (1, kI a1)]) [0, 1] rfl ?_
  refine k_aload_n X dX10_isOne_0 0 rfl ?_
  refine k_getR (t := 6) X fk_X10_27 (by rfl) (by decide) rfl dX10_isOne_1 ?_
  refine k_iload_n X dX10_isOne_4 1 rfl ?_
  refine k_iald X kzM_6 (Nat.le_of_ble_eq_true rfl) dX10_isOne_5 h (fun h => ?_)
  refine k_iload_n X dX10_isOne_6 1 rfl ?_
  refine k_icmp_ne (tgt := 14) X dX10_isOne_7 (by decide) h (fun h => ?_) (fun h => ?_)
  · refine k_iconst X dX10_isOne_14 ?_
    exact k_zret X hrt hlk dX10_isOne_15 ⟨Or.inl rfl, ⟨rfl, h⟩⟩
  · refine k_iconst X dX10_isOne_10 ?_
    refine k_goto (tgt := 15) X dX10_isOne_11 (by decide) ?_
    exact k_zret X hrt hlk dX10_isOne_15 ⟨Or.inr rfl, ⟨rfl, h⟩⟩
set_option maxHeartbeats 4000000 in
set_option maxRecDepth 100000 in
theorem ct_X10_isLive {l : Launch} {D : va_G} {cA : Nat → ClassId} {ad sa : Nat → Nat} (hj : kInj NM ad) (a1 : Int) (a2 : Int) (z : Hp) (Kp : Int → Prop) (h : cal_X10_isLive a1 a2 z Kp) : kMet l yX10_isLive cX10_isLive 3 (some .boolean) 1 NM kdM D cA ad sa [.ref (ad 0), kI a1, kI a2] z (kQi NM kdM D cA ad (fun v z1 => z1 = z ∧ Kp v)) := by
  unfold cal_X10_isLive at h
  refine k_met (cc := cX10_isLive) (own := RX10) (nL := 3) rfl rfl (Nat.le_of_ble_eq_true rfl) hj kltM (fun p e s m below meth c X hrt hlk => ?_)
  refine k_sub (lv' := [(0, .ref (ad 0)), (1, kI a1), (2, kI a2)]) [0, 1, 2] rfl ?_
  refine k_aload_n X dX10_isLive_0 0 rfl ?_
  refine k_iload_n X dX10_isLive_1 1 rfl ?_
  refine k_iconst X dX10_isLive_2 ?_
  refine k_afterP (st := []) (fun H locs ls hP hS hl => k_runV (As := [kI a1, kI 5]) X lk_X10_76 rfl yo_X10_told rfl (kR_ok (by decide) (by decide)) (ct_X10_told (kCx_j X) _ _ _ _ h) (by rfl) rfl (Nat.le_of_ble_eq_true rfl) dX10_isLive_3 hP hS hl) (fun v1 h => ?_)
  refine k_iconst X dX10_isLive_6 ?_
  refine k_icmp_ne (tgt := 24) X dX10_isLive_7 (by decide) ⟨h.1, ⟨by decide, by decide⟩, h.2⟩ (fun h => ?_) (fun h => ?_)
  · refine k_iconst X dX10_isLive_24 ?_
    exact k_zret X hrt hlk dX10_isLive_25 ⟨Or.inl rfl, ⟨rfl, h⟩⟩
  · refine k_aload_n X dX10_isLive_10 0 rfl ?_
    refine k_iload_n X dX10_isLive_11 1 rfl ?_
    refine k_iconst X dX10_isLive_12 ?_
    refine k_afterP (st := []) (fun H locs ls hP hS hl => k_runV (As := [kI a1, kI 0]) X lk_X10_76 rfl yo_X10_told rfl (kR_ok (by decide) (by decide)) (ct_X10_told (kCx_j X) _ _ _ _ h) (by rfl) rfl (Nat.le_of_ble_eq_true rfl) dX10_isLive_13 hP hS hl) (fun v2 h => ?_)
    refine k_iload_n X dX10_isLive_16 2 rfl ?_
    refine k_icmp_ne (tgt := 24) X dX10_isLive_17 (by decide) h (fun h => ?_) (fun h => ?_)
    · refine k_iconst X dX10_isLive_24 ?_
      exact k_zret X hrt hlk dX10_isLive_25 ⟨Or.inl rfl, ⟨rfl, h⟩⟩
    · refine k_iconst X dX10_isLive_20 ?_
      refine k_goto (tgt := 25) X dX10_isLive_21 (by decide) ?_
      exact k_zret X hrt hlk dX10_isLive_25 ⟨Or.inr rfl, ⟨rfl, h⟩⟩
set_option maxHeartbeats 4000000 in
set_option maxRecDepth 100000 in
theorem ct_X10_joins {l : Launch} {D : va_G} {cA : Nat → ClassId} {ad sa : Nat → Nat} (hj : kInj NM ad)  (z : Hp) (Kp : Hp → Prop) (h : cal_X10_joins  z Kp) : kMet l yX10_joins cX10_joins 6 none 2 NM kdM D cA ad sa [.ref (ad 0)] z (kQv NM kdM D cA ad Kp) := by
  unfold cal_X10_joins at h
  refine k_met (cc := cX10_joins) (own := RX10) (nL := 6) rfl rfl (Nat.le_of_ble_eq_true rfl) hj kltM (fun p e s m below meth c X hrt hlk => ?_)
  refine k_sub (lv' := [(0, .ref (ad 0))]) [0] rfl ?_
  refine k_iconst X dX10_joins_0 ?_
  refine k_istore_n X dX10_joins_1 h (fun v1 => [(1, kI v1), (0, .ref (ad 0))]) (by decide) (fun _ => rfl) (fun v1 h => ?_)
  refine k_sub (lv' := [(0, .ref (ad 0)), (1, kI v1)]) [1, 0] rfl ?_
  refine h (fun v3 z4 => kAt p l e (kR 2) s m ([.ref (ad 0)] : List Value).toArray below meth c (MQ below (kQv NM kdM D cA ad Kp) ([.ref (ad 0)] : List Value).toArray s 0 0 (kA NM ad)) 6 NM kdM D cA ad 2 [(0, .ref (ad 0)), (1, kI v3)] [] z4) (fun v3 z4 h => ?_)
  refine k_iload_n X dX10_joins_2 1 rfl ?_
  refine k_bipush X dX10_joins_3 (by decide +kernel) ?_
  refine k_icmp_ge (tgt := 21) X dX10_joins_5 (by decide) ⟨h.1, ⟨by decide, by decide⟩, h.2⟩ (fun h => ?_) (fun h => ?_)
  · refine k_iconst X dX10_joins_21 ?_
    refine k_istore_n X dX10_joins_22 h (fun v5 => [(1, kI v5), (0, .ref (ad 0))]) (by decide) (fun _ => rfl) (fun v5 h => ?_)
    refine k_sub (lv' := [(0, .ref (ad 0)), (1, kI v5)]) [1, 0] rfl ?_
    refine h (fun v7 z8 => kAt p l e (kR 2) s m ([.ref (ad 0)] : List Value).toArray below meth c (MQ below (kQv NM kdM D cA ad Kp) ([.ref (ad 0)] : List Value).toArray s 0 0 (kA NM ad)) 6 NM kdM D cA ad 23 [(0, .ref (ad 0)), (1, kI v7)] [] z8) (fun v7 z8 h => ?_)
    refine k_iload_n X dX10_joins_23 1 rfl ?_
    refine k_aload_n X dX10_joins_24 0 rfl ?_
    refine k_getR (t := 1) X fk_X10_11 (by rfl) (by decide) rfl dX10_joins_25 ?_
    refine k_iconst X dX10_joins_28 ?_
    refine k_iald X kzM_1 (Nat.le_of_ble_eq_true rfl) dX10_joins_29 ⟨⟨by decide, by decide⟩, h⟩ (fun h => ?_)
    refine k_icmp_ge (tgt := 143) X dX10_joins_30 (by decide) h (fun h => ?_) (fun h => ?_)
    · exact k_vret X hrt hlk dX10_joins_143 h
    · refine k_aload_n X dX10_joins_33 0 rfl ?_
      refine k_iload_n X dX10_joins_34 1 rfl ?_
      refine k_iconst X dX10_joins_35 ?_
      refine k_afterP (st := []) (fun H locs ls hP hS hl => k_runV (As := [kI v7, kI 5]) X lk_X10_80 rfl yo_X10_isLive rfl (kR_ok (by decide) (by decide)) (ct_X10_isLive (kCx_j X) _ _ _ _ h) (by rfl) rfl (Nat.le_of_ble_eq_true rfl) dX10_joins_36 hP hS hl) (fun v9 h => ?_)
      refine jn_use (fun J10 => ∀ (z11 : Hp), J10 z11 → kAt p l e (kR 2) s m ([.ref (ad 0)] : List Value).toArray below meth c (MQ below (kQv NM kdM D cA ad Kp) ([.ref (ad 0)] : List Value).toArray s 0 0 (kA NM ad)) 6 NM kdM D cA ad 137 [(0, .ref (ad 0)), (1, kI v7)] [] z11) h ?_ (fun J10 hJ10 h => ?_)
      · intro z11 h
        refine k_iinc X dX10_joins_137 1 rfl h (fun v12 => [(1, kI v12), (0, .ref (ad 0))]) (by decide) (fun _ => rfl) (fun v12 h => ?_)
        refine k_goto (tgt := 23) X dX10_joins_140 (by decide) ?_
        exact k_sub [1, 0] rfl h
      · refine k_if_ne (tgt := 45) X dX10_joins_39 (by decide) h (fun h => ?_) (fun h => ?_)
        · refine k_aload_n X dX10_joins_45 0 rfl ?_
          refine k_getR (t := 6) X fk_X10_27 (by rfl) (by decide) rfl dX10_joins_46 ?_
          refine k_aload_n X dX10_joins_49 0 rfl ?_
          refine k_iload_n X dX10_joins_50 1 rfl ?_
          refine k_iconst X dX10_joins_51 ?_
          refine k_afterP (st := [.ref (ad 6)]) (fun H locs ls hP hS hl => k_runV (As := [kI v7, kI 1]) X lk_X10_76 rfl yo_X10_told rfl (kR_ok (by decide) (by decide)) (ct_X10_told (kCx_j X) _ _ _ _ h) (by rfl) rfl (Nat.le_of_ble_eq_true rfl) dX10_joins_52 hP hS hl) (fun v13 h => ?_)
          refine k_iald X kzM_6 (Nat.le_of_ble_eq_true rfl) dX10_joins_55 h (fun h => ?_)
          refine k_istore_n X dX10_joins_56 h (fun v14 => [(2, kI v14), (0, .ref (ad 0)), (1, kI v7)]) (by decide) (fun _ => rfl) (fun v14 h => ?_)
          refine k_aload_n X dX10_joins_57 1 rfl ?_
          refine k_getR (t := 6) X fk_X10_27 (by rfl) (by decide) rfl dX10_joins_58 ?_
          refine k_aload_n X dX10_joins_61 1 rfl ?_
          refine k_iload_n X dX10_joins_62 2 rfl ?_
          refine k_iconst X dX10_joins_63 ?_
          refine k_afterP (st := [.ref (ad 6)]) (fun H locs ls hP hS hl => k_runV (As := [kI v7, kI 2]) X lk_X10_76 rfl yo_X10_told rfl (kR_ok (by decide) (by decide)) (ct_X10_told (kCx_j X) _ _ _ _ h) (by rfl) rfl (Nat.le_of_ble_eq_true rfl) dX10_joins_64 hP hS hl) (fun v15 h => ?_)
          refine k_iald X kzM_6 (Nat.le_of_ble_eq_true rfl) dX10_joins_67 h (fun h => ?_)
          refine k_istore_n X dX10_joins_68 h (fun v16 => [(3, kI v16), (2, kI v14), (0, .ref (ad 0)), (1, kI v7)]) (by decide) (fun _ => rfl) (fun v16 h => ?_)
          refine k_iload_n X dX10_joins_69 1 rfl ?_
          refine k_iload_n X dX10_joins_70 0 rfl ?_
          refine k_mmin X mw876 mw450 mw11 mw451 (kR_one (by decide)) (Nat.le_of_ble_eq_true rfl) dX10_joins_71 h (fun h => ?_)
          refine k_istore X dX10_joins_74 h (fun v17 => [(4, kI v17), (3, kI v16), (2, kI v14), (0, .ref (ad 0)), (1, kI v7)]) (by decide) (fun _ => rfl) (fun v17 h => ?_)
          refine k_iconst X dX10_joins_76 ?_
          refine k_istore X dX10_joins_77 h (fun v18 => [(5, kI v18), (4, kI v17), (3, kI v16), (2, kI v14), (0, .ref (ad 0)), (1, kI v7)]) (by decide) (fun _ => rfl) (fun v18 h => ?_)
          refine k_sub (lv' := [(0, .ref (ad 0)), (1, kI v7), (2, kI v14), (3, kI v16), (4, kI v17), (5, kI v18)]) [4, 5, 3, 2, 1, 0] rfl ?_
          refine h (fun v20 z21 => kAt p l e (kR 2) s m ([.ref (ad 0)] : List Value).toArray below meth c (MQ below (kQv NM kdM D cA ad Kp) ([.ref (ad 0)] : List Value).toArray s 0 0 (kA NM ad)) 6 NM kdM D cA ad 79 [(0, .ref (ad 0)), (1, kI v7), (2, kI v14), (3, kI v16), (4, kI v17), (5, kI v20)] [] z21) (fun v20 z21 h => ?_)
          refine k_iload X dX10_joins_79 5 rfl ?_
          refine k_aload_n X dX10_joins_81 0 rfl ?_
          refine k_getR (t := 1) X fk_X10_11 (by rfl) (by decide) rfl dX10_joins_82 ?_
          refine k_iconst X dX10_joins_85 ?_
          refine k_iald X kzM_1 (Nat.le_of_ble_eq_true rfl) dX10_joins_86 ⟨⟨by decide, by decide⟩, h⟩ (fun h => ?_)
          refine k_icmp_ge (tgt := 137) X dX10_joins_87 (by decide) h (fun h => ?_) (fun h => ?_)
          · exact k_sub [0, 1] rfl (hJ10 _ h)
          · refine k_aload_n X dX10_joins_90 0 rfl ?_
            refine k_getR (t := 6) X fk_X10_27 (by rfl) (by decide) rfl dX10_joins_91 ?_
            refine k_iload X dX10_joins_94 5 rfl ?_
            refine k_aload_n X dX10_joins_96 0 rfl ?_
            refine k_getR (t := 6) X fk_X10_27 (by rfl) (by decide) rfl dX10_joins_97 ?_
            refine k_iload X dX10_joins_100 5 rfl ?_
            refine k_iald X kzM_6 (Nat.le_of_ble_eq_true rfl) dX10_joins_102 h (fun h => ?_)
            refine k_iload_n X dX10_joins_103 2 rfl ?_
            refine jn_use (fun J22 => ∀ (z23 : Hp), J22 z23 → kAt p l e (kR 2) s m ([.ref (ad 0)] : List Value).toArray below meth c (MQ below (kQv NM kdM D cA ad Kp) ([.ref (ad 0)] : List Value).toArray s 0 0 (kA NM ad)) 6 NM kdM D cA ad 131 [(0, .ref (ad 0)), (1, kI v7), (2, kI v14), (3, kI v16), (4, kI v17), (5, kI v20)] [] z23) h ?_ (fun J22 hJ22 h => ?_)
            · intro z23 h
              refine k_iinc X dX10_joins_131 5 rfl h (fun v24 => [(5, kI v24), (0, .ref (ad 0)), (1, kI v7), (2, kI v14), (3, kI v16), (4, kI v17)]) (by decide) (fun _ => rfl) (fun v24 h => ?_)
              refine k_goto (tgt := 79) X dX10_joins_134 (by decide) ?_
              exact k_sub [1, 2, 3, 4, 5, 0] rfl h
            · refine k_icmp_eq (tgt := 118) X dX10_joins_104 (by decide) h (fun h => ?_) (fun h => ?_)
              · refine k_iload X dX10_joins_118 4 rfl ?_
                refine k_goto (tgt := 130) X dX10_joins_120 (by decide) ?_
                refine k_iast X kzM_6 (Nat.le_of_ble_eq_true rfl) dX10_joins_130 h (fun h => k_nameH h (fun z25 h => ?_))
                exact k_sub [0, 1, 2, 3, 4, 5] rfl (hJ22 _ h)
              · refine k_aload_n X dX10_joins_107 0 rfl ?_
                refine k_getR (t := 6) X fk_X10_27 (by rfl) (by decide) rfl dX10_joins_108 ?_
                refine k_iload X dX10_joins_111 5 rfl ?_
                refine k_iald X kzM_6 (Nat.le_of_ble_eq_true rfl) dX10_joins_113 h (fun h => ?_)
                refine k_iload_n X dX10_joins_114 3 rfl ?_
                refine k_icmp_ne (tgt := 123) X dX10_joins_115 (by decide) h (fun h => ?_) (fun h => ?_)
                · refine k_aload_n X dX10_joins_123 0 rfl ?_
                  refine k_getR (t := 6) X fk_X10_27 (by rfl) (by decide) rfl dX10_joins_124 ?_
                  refine k_iload X dX10_joins_127 5 rfl ?_
                  refine k_iald X kzM_6 (Nat.le_of_ble_eq_true rfl) dX10_joins_129 h (fun h => ?_)
                  refine k_iast X kzM_6 (Nat.le_of_ble_eq_true rfl) dX10_joins_130 h (fun h => k_nameH h (fun z26 h => ?_))
                  exact k_sub [0, 1, 2, 3, 4, 5] rfl (hJ22 _ h)
                · refine k_iload X dX10_joins_118 4 rfl ?_
                  refine k_goto (tgt := 130) X dX10_joins_120 (by decide) ?_
                  refine k_iast X kzM_6 (Nat.le_of_ble_eq_true rfl) dX10_joins_130 h (fun h => k_nameH h (fun z27 h => ?_))
                  exact k_sub [0, 1, 2, 3, 4, 5] rfl (hJ22 _ h)
        · refine k_goto (tgt := 137) X dX10_joins_42 (by decide) ?_
          exact k_sub [0, 1] rfl (hJ10 _ h)
  · refine k_aload_n X dX10_joins_8 0 rfl ?_
    refine k_getR (t := 6) X fk_X10_27 (by rfl) (by decide) rfl dX10_joins_9 ?_
    refine k_iload_n X dX10_joins_12 1 rfl ?_
    refine k_iload_n X dX10_joins_13 1 rfl ?_
    refine k_iast X kzM_6 (Nat.le_of_ble_eq_true rfl) dX10_joins_14 h (fun h => k_nameH h (fun z28 h => ?_))
    refine k_iinc X dX10_joins_15 1 rfl h (fun v29 => [(1, kI v29), (0, .ref (ad 0))]) (by decide) (fun _ => rfl) (fun v29 h => ?_)
    refine k_goto (tgt := 2) X dX10_joins_18 (by decide) ?_
    exact k_sub [1, 0] rfl h
set_option maxHeartbeats 4000000 in
set_option maxRecDepth 100000 in
theorem ct_X10_ones {l : Launch} {D : va_G} {cA : Nat → ClassId} {ad sa : Nat → Nat} (hj : kInj NM ad) (a1 : Int) (z : Hp) (Kp : Int → Prop) (h : cal_X10_ones a1 z Kp) : kMet l yX10_ones cX10_ones 3 (some .int) 0 NM kdM D cA ad sa [kI a1] z (kQi NM kdM D cA ad (fun v z1 => z1 = z ∧ Kp v)) := by
  unfold cal_X10_ones at h
  refine k_met (cc := cX10_ones) (own := RX10) (nL := 3) rfl rfl (Nat.le_of_ble_eq_true rfl) hj kltM (fun p e s m below meth c X hrt hlk => ?_)
  refine k_sub (lv' := [(0, kI a1)]) [0] rfl ?_
  refine k_iconst X dX10_ones_0 ?_
  refine k_istore_n X dX10_ones_1 h (fun v1 => [(1, kI v1), (0, kI a1)]) (by decide) (fun _ => rfl) (fun v1 h => ?_)
  refine k_iconst X dX10_ones_2 ?_
  refine k_istore_n X dX10_ones_3 h (fun v2 => [(2, kI v2), (1, kI v1), (0, kI a1)]) (by decide) (fun _ => rfl) (fun v2 h => ?_)
  refine k_sub (lv' := [(0, kI a1), (1, kI v1), (2, kI v2)]) [2, 1, 0] rfl ?_
  refine h (fun v4 v5 => kAt p l e (kR 0) s m ([kI a1] : List Value).toArray below meth c (MQ below (kQi NM kdM D cA ad (fun v z1 => z1 = z ∧ Kp v)) ([kI a1] : List Value).toArray s 0 0 (kA NM ad)) 3 NM kdM D cA ad 4 [(0, kI a1), (1, kI v4), (2, kI v5)] [] z) (fun v4 v5 h => ?_)
  refine k_iload_n X dX10_ones_4 2 rfl ?_
  refine k_bipush X dX10_ones_5 (by decide +kernel) ?_
  refine k_icmp_ge (tgt := 24) X dX10_ones_7 (by decide) ⟨h.1, ⟨by decide, by decide⟩, h.2⟩ (fun h => ?_) (fun h => ?_)
  · refine k_iload_n X dX10_ones_24 1 rfl ?_
    exact k_iret X hrt hlk dX10_ones_25 ⟨rfl, h⟩
  · refine k_iload_n X dX10_ones_10 1 rfl ?_
    refine k_iload_n X dX10_ones_11 0 rfl ?_
    refine k_iload_n X dX10_ones_12 2 rfl ?_
    refine k_ishr X dX10_ones_13 ?_
    refine k_iconst X dX10_ones_14 ?_
    refine k_iand X dX10_ones_15 ?_
    refine k_iadd X dX10_ones_16 ?_
    refine k_istore_n X dX10_ones_17 h (fun v6 => [(1, kI v6), (0, kI a1), (2, kI v5)]) (by decide) (fun _ => rfl) (fun v6 h => ?_)
    refine k_iinc X dX10_ones_18 2 rfl h (fun v7 => [(2, kI v7), (1, kI v6), (0, kI a1)]) (by decide) (fun _ => rfl) (fun v7 h => ?_)
    refine k_goto (tgt := 4) X dX10_ones_21 (by decide) ?_
    exact k_sub [2, 1, 0] rfl h
set_option maxHeartbeats 4000000 in
set_option maxRecDepth 100000 in
theorem ct_X10_sexOf {l : Launch} {D : va_G} {cA : Nat → ClassId} {ad sa : Nat → Nat} (hj : kInj NM ad) (a1 : Int) (z : Hp) (Kp : Int → Prop) (h : cal_X10_sexOf a1 z Kp) : kMet l yX10_sexOf cX10_sexOf 2 (some .int) 0 NM kdM D cA ad sa [.ref (ad 0), kI a1] z (kQi NM kdM D cA ad (fun v z1 => z1 = z ∧ Kp v)) := by
  unfold cal_X10_sexOf at h
  refine k_met (cc := cX10_sexOf) (own := RX10) (nL := 2) rfl rfl (Nat.le_of_ble_eq_true rfl) hj kltM (fun p e s m below meth c X hrt hlk => ?_)
  refine k_sub (lv' := [(0, .ref (ad 0)), (1, kI a1)]) [0, 1] rfl ?_
  refine k_aload_n X dX10_sexOf_0 0 rfl ?_
  refine k_getR (t := 1) X fk_X10_11 (by rfl) (by decide) rfl dX10_sexOf_1 ?_
  refine k_iconst X dX10_sexOf_4 ?_
  refine k_bipush X dX10_sexOf_5 (by decide +kernel) ?_
  refine k_iload_n X dX10_sexOf_7 1 rfl ?_
  refine k_imul X dX10_sexOf_8 ?_
  refine k_iadd X dX10_sexOf_9 ?_
  refine k_bipush X dX10_sexOf_10 (by decide +kernel) ?_
  refine k_iadd X dX10_sexOf_12 ?_
  refine k_iald X kzM_1 (Nat.le_of_ble_eq_true rfl) dX10_sexOf_13 h (fun h => ?_)
  exact k_iret X hrt hlk dX10_sexOf_14 ⟨rfl, h⟩
set_option maxHeartbeats 4000000 in
set_option maxRecDepth 100000 in
theorem ct_X10_sexes {l : Launch} {D : va_G} {cA : Nat → ClassId} {ad sa : Nat → Nat} (hj : kInj NM ad) (a1 : Int) (z : Hp) (Kp : Int → Prop) (h : cal_X10_sexes a1 z Kp) : kMet l yX10_sexes cX10_sexes 4 (some .int) 1 NM kdM D cA ad sa [.ref (ad 0), kI a1] z (kQi NM kdM D cA ad (fun v z1 => z1 = z ∧ Kp v)) := by
  unfold cal_X10_sexes at h
  refine k_met (cc := cX10_sexes) (own := RX10) (nL := 4) rfl rfl (Nat.le_of_ble_eq_true rfl) hj kltM (fun p e s m below meth c X hrt hlk => ?_)
  refine k_sub (lv' := [(0, .ref (ad 0)), (1, kI a1)]) [0, 1] rfl ?_
  refine k_iconst X dX10_sexes_0 ?_
  refine k_istore_n X dX10_sexes_1 h (fun v1 => [(2, kI v1), (0, .ref (ad 0)), (1, kI a1)]) (by decide) (fun _ => rfl) (fun v1 h => ?_)
  refine k_iconst X dX10_sexes_2 ?_
  refine k_istore_n X dX10_sexes_3 h (fun v2 => [(3, kI v2), (2, kI v1), (0, .ref (ad 0)), (1, kI a1)]) (by decide) (fun _ => rfl) (fun v2 h => ?_)
  refine k_sub (lv' := [(0, .ref (ad 0)), (1, kI a1), (2, kI v1), (3, kI v2)]) [2, 3, 1, 0] rfl ?_
  refine h (fun v4 v5 => kAt p l e (kR 1) s m ([.ref (ad 0), kI a1] : List Value).toArray below meth c (MQ below (kQi NM kdM D cA ad (fun v z1 => z1 = z ∧ Kp v)) ([.ref (ad 0), kI a1] : List Value).toArray s 0 0 (kA NM ad)) 4 NM kdM D cA ad 4 [(0, .ref (ad 0)), (1, kI a1), (2, kI v4), (3, kI v5)] [] z) (fun v4 v5 h => ?_)
  refine k_iload_n X dX10_sexes_4 3 rfl ?_
  refine k_aload_n X dX10_sexes_5 0 rfl ?_
  refine k_getR (t := 1) X fk_X10_11 (by rfl) (by decide) rfl dX10_sexes_6 ?_
  refine k_iconst X dX10_sexes_9 ?_
  refine k_iald X kzM_1 (Nat.le_of_ble_eq_true rfl) dX10_sexes_10 ⟨⟨by decide, by decide⟩, h⟩ (fun h => ?_)
  refine k_icmp_ge (tgt := 80) X dX10_sexes_11 (by decide) h (fun h => ?_) (fun h => ?_)
  · refine k_iload_n X dX10_sexes_80 2 rfl ?_
    exact k_iret X hrt hlk dX10_sexes_81 ⟨rfl, h⟩
  · refine k_aload_n X dX10_sexes_14 0 rfl ?_
    refine k_getR (t := 6) X fk_X10_27 (by rfl) (by decide) rfl dX10_sexes_15 ?_
    refine k_iload_n X dX10_sexes_18 3 rfl ?_
    refine k_iald X kzM_6 (Nat.le_of_ble_eq_true rfl) dX10_sexes_19 h (fun h => ?_)
    refine k_iload_n X dX10_sexes_20 1 rfl ?_
    refine jn_use (fun J7 => ∀ (v6 : Int), J7 v6 → kAt p l e (kR 1) s m ([.ref (ad 0), kI a1] : List Value).toArray below meth c (MQ below (kQi NM kdM D cA ad (fun v z1 => z1 = z ∧ Kp v)) ([.ref (ad 0), kI a1] : List Value).toArray s 0 0 (kA NM ad)) 4 NM kdM D cA ad 32 [(0, .ref (ad 0)), (1, kI a1), (2, kI v6), (3, kI v5)] [] z) h ?_ (fun J7 hJ7 h => ?_)
    · intro v6 h
      refine k_iload_n X dX10_sexes_32 2 rfl ?_
      refine k_aload_n X dX10_sexes_33 0 rfl ?_
      refine k_getR (t := 7) X fk_X10_30 (by rfl) (by decide) rfl dX10_sexes_34 ?_
      refine k_iload_n X dX10_sexes_37 3 rfl ?_
      refine k_iald X kzM_7 (Nat.le_of_ble_eq_true rfl) dX10_sexes_38 h (fun h => ?_)
      refine k_iload_n X dX10_sexes_39 1 rfl ?_
      refine k_afterP (st := [kI v6]) (fun H locs ls hP hS hl => k_runS (As := [kI (z 7 v5.toNat), kI a1]) X lk_X10_89 yo_X10_has rfl (kR_ok (by decide) (by decide)) (ct_X10_has (kCx_j X) _ _ _ _ h) (Nat.le_of_ble_eq_true rfl) dX10_sexes_40 hP hS hl) (fun v8 h => ?_)
      refine jn_use (fun J10 => ∀ (v9 : Int), J10 v9 → kAt p l e (kR 1) s m ([.ref (ad 0), kI a1] : List Value).toArray below meth c (MQ below (kQi NM kdM D cA ad (fun v z1 => z1 = z ∧ Kp v)) ([.ref (ad 0), kI a1] : List Value).toArray s 0 0 (kA NM ad)) 4 NM kdM D cA ad 53 [(0, .ref (ad 0)), (1, kI a1), (2, kI v9), (3, kI v5)] [] z) h ?_ (fun J10 hJ10 h => ?_)
      · intro v9 h
        refine k_iload_n X dX10_sexes_53 2 rfl ?_
        refine k_aload_n X dX10_sexes_54 0 rfl ?_
        refine k_getR (t := 8) X fk_X10_33 (by rfl) (by decide) rfl dX10_sexes_55 ?_
        refine k_iload_n X dX10_sexes_58 3 rfl ?_
        refine k_iald X kzM_8 (Nat.le_of_ble_eq_true rfl) dX10_sexes_59 h (fun h => ?_)
        refine k_iload_n X dX10_sexes_60 1 rfl ?_
        refine k_afterP (st := [kI v9]) (fun H locs ls hP hS hl => k_runS (As := [kI (z 8 v5.toNat), kI a1]) X lk_X10_89 yo_X10_has rfl (kR_ok (by decide) (by decide)) (ct_X10_has (kCx_j X) _ _ _ _ h) (Nat.le_of_ble_eq_true rfl) dX10_sexes_61 hP hS hl) (fun v11 h => ?_)
        refine jn_use (fun J13 => ∀ (v12 : Int), J13 v12 → kAt p l e (kR 1) s m ([.ref (ad 0), kI a1] : List Value).toArray below meth c (MQ below (kQi NM kdM D cA ad (fun v z1 => z1 = z ∧ Kp v)) ([.ref (ad 0), kI a1] : List Value).toArray s 0 0 (kA NM ad)) 4 NM kdM D cA ad 74 [(0, .ref (ad 0)), (1, kI a1), (2, kI v12), (3, kI v5)] [] z) h ?_ (fun J13 hJ13 h => ?_)
        · intro v12 h
          refine k_iinc X dX10_sexes_74 3 rfl h (fun v14 => [(3, kI v14), (0, .ref (ad 0)), (1, kI a1), (2, kI v12)]) (by decide) (fun _ => rfl) (fun v14 h => ?_)
          refine k_goto (tgt := 4) X dX10_sexes_77 (by decide) ?_
          exact k_sub [1, 2, 3, 0] rfl h
        · refine k_if_eq (tgt := 71) X dX10_sexes_64 (by decide) h (fun h => ?_) (fun h => ?_)
          · refine k_iconst X dX10_sexes_71 ?_
            refine k_ior X dX10_sexes_72 ?_
            refine k_istore_n X dX10_sexes_73 h (fun v15 => [(2, kI v15), (0, .ref (ad 0)), (1, kI a1), (3, kI v5)]) (by decide) (fun _ => rfl) (fun v15 h => ?_)
            exact k_sub [1, 2, 0, 3] rfl (hJ13 _ h)
          · refine k_iconst X dX10_sexes_67 ?_
            refine k_goto (tgt := 72) X dX10_sexes_68 (by decide) ?_
            refine k_ior X dX10_sexes_72 ?_
            refine k_istore_n X dX10_sexes_73 h (fun v16 => [(2, kI v16), (0, .ref (ad 0)), (1, kI a1), (3, kI v5)]) (by decide) (fun _ => rfl) (fun v16 h => ?_)
            exact k_sub [1, 2, 0, 3] rfl (hJ13 _ h)
      · refine k_if_eq (tgt := 50) X dX10_sexes_43 (by decide) h (fun h => ?_) (fun h => ?_)
        · refine k_iconst X dX10_sexes_50 ?_
          refine k_ior X dX10_sexes_51 ?_
          refine k_istore_n X dX10_sexes_52 h (fun v17 => [(2, kI v17), (0, .ref (ad 0)), (1, kI a1), (3, kI v5)]) (by decide) (fun _ => rfl) (fun v17 h => ?_)
          exact k_sub [1, 2, 0, 3] rfl (hJ10 _ h)
        · refine k_iconst X dX10_sexes_46 ?_
          refine k_goto (tgt := 51) X dX10_sexes_47 (by decide) ?_
          refine k_ior X dX10_sexes_51 ?_
          refine k_istore_n X dX10_sexes_52 h (fun v18 => [(2, kI v18), (0, .ref (ad 0)), (1, kI a1), (3, kI v5)]) (by decide) (fun _ => rfl) (fun v18 h => ?_)
          exact k_sub [1, 2, 0, 3] rfl (hJ10 _ h)
    · refine k_icmp_ne (tgt := 32) X dX10_sexes_21 (by decide) h (fun h => ?_) (fun h => ?_)
      · exact k_sub [0, 1, 2, 3] rfl (hJ7 _ h)
      · refine k_iload_n X dX10_sexes_24 2 rfl ?_
        refine k_aload_n X dX10_sexes_25 0 rfl ?_
        refine k_iload_n X dX10_sexes_26 3 rfl ?_
        refine k_afterP (st := [kI v4]) (fun H locs ls hP hS hl => k_runV (As := [kI v5]) X lk_X10_92 rfl yo_X10_sexOf rfl (kR_ok (by decide) (by decide)) (ct_X10_sexOf (kCx_j X) _ _ _ h) (by rfl) rfl (Nat.le_of_ble_eq_true rfl) dX10_sexes_27 hP hS hl) (fun v19 h => ?_)
        refine k_ior X dX10_sexes_30 ?_
        refine k_istore_n X dX10_sexes_31 h (fun v20 => [(2, kI v20), (0, .ref (ad 0)), (1, kI a1), (3, kI v5)]) (by decide) (fun _ => rfl) (fun v20 h => ?_)
        exact k_sub [1, 2, 0, 3] rfl (hJ7 _ h)
set_option maxHeartbeats 4000000 in
set_option maxRecDepth 100000 in
theorem ct_X10_looks {l : Launch} {D : va_G} {cA : Nat → ClassId} {ad sa : Nat → Nat} (hj : kInj NM ad)  (z : Hp) (Kp : Hp → Prop) (h : cal_X10_looks  z Kp) : kMet l yX10_looks cX10_looks 2 none 2 NM kdM D cA ad sa [.ref (ad 0)] z (kQv NM kdM D cA ad Kp) := by
  unfold cal_X10_looks at h
  refine k_met (cc := cX10_looks) (own := RX10) (nL := 2) rfl rfl (Nat.le_of_ble_eq_true rfl) hj kltM (fun p e s m below meth c X hrt hlk => ?_)
  refine k_sub (lv' := [(0, .ref (ad 0))]) [0] rfl ?_
  refine k_iconst X dX10_looks_0 ?_
  refine k_istore_n X dX10_looks_1 h (fun v1 => [(1, kI v1), (0, .ref (ad 0))]) (by decide) (fun _ => rfl) (fun v1 h => ?_)
  refine k_sub (lv' := [(0, .ref (ad 0)), (1, kI v1)]) [1, 0] rfl ?_
  refine h (fun v3 z4 => kAt p l e (kR 2) s m ([.ref (ad 0)] : List Value).toArray below meth c (MQ below (kQv NM kdM D cA ad Kp) ([.ref (ad 0)] : List Value).toArray s 0 0 (kA NM ad)) 2 NM kdM D cA ad 2 [(0, .ref (ad 0)), (1, kI v3)] [] z4) (fun v3 z4 h => ?_)
  refine k_iload_n X dX10_looks_2 1 rfl ?_
  refine k_aload_n X dX10_looks_3 0 rfl ?_
  refine k_getR (t := 1) X fk_X10_11 (by rfl) (by decide) rfl dX10_looks_4 ?_
  refine k_iconst X dX10_looks_7 ?_
  refine k_iald X kzM_1 (Nat.le_of_ble_eq_true rfl) dX10_looks_8 ⟨⟨by decide, by decide⟩, h⟩ (fun h => ?_)
  refine k_icmp_ge (tgt := 41) X dX10_looks_9 (by decide) h (fun h => ?_) (fun h => ?_)
  · refine k_iconst X dX10_looks_41 ?_
    refine k_istore_n X dX10_looks_42 h (fun v5 => [(1, kI v5), (0, .ref (ad 0))]) (by decide) (fun _ => rfl) (fun v5 h => ?_)
    refine k_sub (lv' := [(0, .ref (ad 0)), (1, kI v5)]) [1, 0] rfl ?_
    refine h (fun v7 z8 => kAt p l e (kR 2) s m ([.ref (ad 0)] : List Value).toArray below meth c (MQ below (kQv NM kdM D cA ad Kp) ([.ref (ad 0)] : List Value).toArray s 0 0 (kA NM ad)) 2 NM kdM D cA ad 43 [(0, .ref (ad 0)), (1, kI v7)] [] z8) (fun v7 z8 h => ?_)
    refine k_iload_n X dX10_looks_43 1 rfl ?_
    refine k_aload_n X dX10_looks_44 0 rfl ?_
    refine k_getR (t := 1) X fk_X10_11 (by rfl) (by decide) rfl dX10_looks_45 ?_
    refine k_iconst X dX10_looks_48 ?_
    refine k_iald X kzM_1 (Nat.le_of_ble_eq_true rfl) dX10_looks_49 ⟨⟨by decide, by decide⟩, h⟩ (fun h => ?_)
    refine k_icmp_ge (tgt := 91) X dX10_looks_50 (by decide) h (fun h => ?_) (fun h => ?_)
    · refine k_iconst X dX10_looks_91 ?_
      refine k_istore_n X dX10_looks_92 h (fun v9 => [(1, kI v9), (0, .ref (ad 0))]) (by decide) (fun _ => rfl) (fun v9 h => ?_)
      refine k_sub (lv' := [(0, .ref (ad 0)), (1, kI v9)]) [1, 0] rfl ?_
      refine h (fun v11 z12 => kAt p l e (kR 2) s m ([.ref (ad 0)] : List Value).toArray below meth c (MQ below (kQv NM kdM D cA ad Kp) ([.ref (ad 0)] : List Value).toArray s 0 0 (kA NM ad)) 2 NM kdM D cA ad 93 [(0, .ref (ad 0)), (1, kI v11)] [] z12) (fun v11 z12 h => ?_)
      refine k_iload_n X dX10_looks_93 1 rfl ?_
      refine k_aload_n X dX10_looks_94 0 rfl ?_
      refine k_getR (t := 1) X fk_X10_11 (by rfl) (by decide) rfl dX10_looks_95 ?_
      refine k_iconst X dX10_looks_98 ?_
      refine k_iald X kzM_1 (Nat.le_of_ble_eq_true rfl) dX10_looks_99 ⟨⟨by decide, by decide⟩, h⟩ (fun h => ?_)
      refine k_icmp_ge (tgt := 128) X dX10_looks_100 (by decide) h (fun h => ?_) (fun h => ?_)
      · exact k_vret X hrt hlk dX10_looks_128 h
      · refine k_aload_n X dX10_looks_103 0 rfl ?_
        refine k_getR (t := 9) X fk_X10_36 (by rfl) (by decide) rfl dX10_looks_104 ?_
        refine k_iload_n X dX10_looks_107 1 rfl ?_
        refine k_iald X kzM_9 (Nat.le_of_ble_eq_true rfl) dX10_looks_108 h (fun h => ?_)
        refine k_iload_n X dX10_looks_109 1 rfl ?_
        refine k_afterP (st := []) (fun H locs ls hP hS hl => k_runS (As := [kI (z12 9 v11.toNat), kI v11]) X lk_X10_89 yo_X10_has rfl (kR_ok (by decide) (by decide)) (ct_X10_has (kCx_j X) _ _ _ _ h) (Nat.le_of_ble_eq_true rfl) dX10_looks_110 hP hS hl) (fun v13 h => ?_)
        refine jn_use (fun J14 => ∀ (z15 : Hp), J14 z15 → kAt p l e (kR 2) s m ([.ref (ad 0)] : List Value).toArray below meth c (MQ below (kQv NM kdM D cA ad Kp) ([.ref (ad 0)] : List Value).toArray s 0 0 (kA NM ad)) 2 NM kdM D cA ad 122 [(0, .ref (ad 0)), (1, kI v11)] [] z15) h ?_ (fun J14 hJ14 h => ?_)
        · intro z15 h
          refine k_iinc X dX10_looks_122 1 rfl h (fun v16 => [(1, kI v16), (0, .ref (ad 0))]) (by decide) (fun _ => rfl) (fun v16 h => ?_)
          refine k_goto (tgt := 93) X dX10_looks_125 (by decide) ?_
          exact k_sub [1, 0] rfl h
        · refine k_if_eq (tgt := 122) X dX10_looks_113 (by decide) h (fun h => ?_) (fun h => ?_)
          · exact k_sub [0, 1] rfl (hJ14 _ h)
          · refine k_aload_n X dX10_looks_116 0 rfl ?_
            refine k_iconst X dX10_looks_117 ?_
            refine k_iload_n X dX10_looks_118 1 rfl ?_
            refine k_afterV (st := []) (fun H locs ls hP hS hl => k_runV (As := [kI 3, kI v11]) X lk_X10_110 rfl yo_X10_clashes rfl (kR_ok (by decide) (by decide)) (ct_X10_clashes (kCx_j X) _ _ _ _ h) (by rfl) rfl (Nat.le_of_ble_eq_true rfl) dX10_looks_119 hP hS hl) (fun z17 h => ?_)
            exact k_sub [0, 1] rfl (hJ14 _ h)
    · refine k_aload_n X dX10_looks_53 0 rfl ?_
      refine k_getR (t := 7) X fk_X10_30 (by rfl) (by decide) rfl dX10_looks_54 ?_
      refine k_iload_n X dX10_looks_57 1 rfl ?_
      refine k_iald X kzM_7 (Nat.le_of_ble_eq_true rfl) dX10_looks_58 h (fun h => ?_)
      refine k_afterP (st := []) (fun H locs ls hP hS hl => k_runS (As := [kI (z8 7 v7.toNat)]) X lk_X10_114 yo_X10_ones rfl (kR_ok (by decide) (by decide)) (ct_X10_ones (kCx_j X) _ _ _ h) (Nat.le_of_ble_eq_true rfl) dX10_looks_59 hP hS hl) (fun v18 h => ?_)
      refine k_iconst X dX10_looks_62 ?_
      refine jn_use (fun J19 => ∀ (z20 : Hp), J19 z20 → kAt p l e (kR 2) s m ([.ref (ad 0)] : List Value).toArray below meth c (MQ below (kQv NM kdM D cA ad Kp) ([.ref (ad 0)] : List Value).toArray s 0 0 (kA NM ad)) 2 NM kdM D cA ad 85 [(0, .ref (ad 0)), (1, kI v7)] [] z20) h ?_ (fun J19 hJ19 h => ?_)
      · intro z20 h
        refine k_iinc X dX10_looks_85 1 rfl h (fun v21 => [(1, kI v21), (0, .ref (ad 0))]) (by decide) (fun _ => rfl) (fun v21 h => ?_)
        refine k_goto (tgt := 43) X dX10_looks_88 (by decide) ?_
        exact k_sub [1, 0] rfl h
      · refine jn_use (fun J22 => J22 → kAt p l e (kR 2) s m ([.ref (ad 0)] : List Value).toArray below meth c (MQ below (kQv NM kdM D cA ad Kp) ([.ref (ad 0)] : List Value).toArray s 0 0 (kA NM ad)) 2 NM kdM D cA ad 79 [(0, .ref (ad 0)), (1, kI v7)] [] z8) h ?_ (fun J22 hJ22 h => ?_)
        · intro h
          refine k_aload_n X dX10_looks_79 0 rfl ?_
          refine k_iconst X dX10_looks_80 ?_
          refine k_iload_n X dX10_looks_81 1 rfl ?_
          refine k_afterV (st := []) (fun H locs ls hP hS hl => k_runV (As := [kI 2, kI v7]) X lk_X10_110 rfl yo_X10_clashes rfl (kR_ok (by decide) (by decide)) (ct_X10_clashes (kCx_j X) _ _ _ _ h) (by rfl) rfl (Nat.le_of_ble_eq_true rfl) dX10_looks_82 hP hS hl) (fun z23 h => ?_)
          exact k_sub [0, 1] rfl (hJ19 _ h)
        · refine k_icmp_gt (tgt := 79) X dX10_looks_63 (by decide) ⟨h.1, ⟨by decide, by decide⟩, h.2⟩ (fun h => ?_) (fun h => ?_)
          · exact k_sub [0, 1] rfl (hJ22 h)
          · refine k_aload_n X dX10_looks_66 0 rfl ?_
            refine k_getR (t := 8) X fk_X10_33 (by rfl) (by decide) rfl dX10_looks_67 ?_
            refine k_iload_n X dX10_looks_70 1 rfl ?_
            refine k_iald X kzM_8 (Nat.le_of_ble_eq_true rfl) dX10_looks_71 h (fun h => ?_)
            refine k_afterP (st := []) (fun H locs ls hP hS hl => k_runS (As := [kI (z8 8 v7.toNat)]) X lk_X10_114 yo_X10_ones rfl (kR_ok (by decide) (by decide)) (ct_X10_ones (kCx_j X) _ _ _ h) (Nat.le_of_ble_eq_true rfl) dX10_looks_72 hP hS hl) (fun v24 h => ?_)
            refine k_iconst X dX10_looks_75 ?_
            refine k_icmp_le (tgt := 85) X dX10_looks_76 (by decide) ⟨h.1, ⟨by decide, by decide⟩, h.2⟩ (fun h => ?_) (fun h => ?_)
            · exact k_sub [0, 1] rfl (hJ19 _ h)
            · exact k_sub [0, 1] rfl (hJ22 h)
  · refine k_aload_n X dX10_looks_12 0 rfl ?_
    refine k_iload_n X dX10_looks_13 1 rfl ?_
    refine k_afterP (st := []) (fun H locs ls hP hS hl => k_runV (As := [kI v3]) X lk_X10_103 rfl yo_X10_isOne rfl (kR_ok (by decide) (by decide)) (ct_X10_isOne (kCx_j X) _ _ _ h) (by rfl) rfl (Nat.le_of_ble_eq_true rfl) dX10_looks_14 hP hS hl) (fun v25 h => ?_)
    refine jn_use (fun J26 => ∀ (z27 : Hp), J26 z27 → kAt p l e (kR 2) s m ([.ref (ad 0)] : List Value).toArray below meth c (MQ below (kQv NM kdM D cA ad Kp) ([.ref (ad 0)] : List Value).toArray s 0 0 (kA NM ad)) 2 NM kdM D cA ad 35 [(0, .ref (ad 0)), (1, kI v3)] [] z27) h ?_ (fun J26 hJ26 h => ?_)
    · intro z27 h
      refine k_iinc X dX10_looks_35 1 rfl h (fun v28 => [(1, kI v28), (0, .ref (ad 0))]) (by decide) (fun _ => rfl) (fun v28 h => ?_)
      refine k_goto (tgt := 2) X dX10_looks_38 (by decide) ?_
      exact k_sub [1, 0] rfl h
    · refine k_if_eq (tgt := 35) X dX10_looks_17 (by decide) h (fun h => ?_) (fun h => ?_)
      · exact k_sub [0, 1] rfl (hJ26 _ h)
      · refine k_aload_n X dX10_looks_20 0 rfl ?_
        refine k_iload_n X dX10_looks_21 1 rfl ?_
        refine k_afterP (st := []) (fun H locs ls hP hS hl => k_runV (As := [kI v3]) X lk_X10_107 rfl yo_X10_sexes rfl (kR_ok (by decide) (by decide)) (ct_X10_sexes (kCx_j X) _ _ _ h) (by rfl) rfl (Nat.le_of_ble_eq_true rfl) dX10_looks_22 hP hS hl) (fun v29 h => ?_)
        refine k_iconst X dX10_looks_25 ?_
        refine k_icmp_ne (tgt := 35) X dX10_looks_26 (by decide) ⟨h.1, ⟨by decide, by decide⟩, h.2⟩ (fun h => ?_) (fun h => ?_)
        · exact k_sub [0, 1] rfl (hJ26 _ h)
        · refine k_aload_n X dX10_looks_29 0 rfl ?_
          refine k_iconst X dX10_looks_30 ?_
          refine k_iload_n X dX10_looks_31 1 rfl ?_
          refine k_afterV (st := []) (fun H locs ls hP hS hl => k_runV (As := [kI 1, kI v3]) X lk_X10_110 rfl yo_X10_clashes rfl (kR_ok (by decide) (by decide)) (ct_X10_clashes (kCx_j X) _ _ _ _ h) (by rfl) rfl (Nat.le_of_ble_eq_true rfl) dX10_looks_32 hP hS hl) (fun z30 h => ?_)
          exact k_sub [0, 1] rfl (hJ26 _ h)
set_option maxHeartbeats 4000000 in
set_option maxRecDepth 100000 in
theorem ct_X10_parents {l : Launch} {D : va_G} {cA : Nat → ClassId} {ad sa : Nat → Nat} (hj : kInj NM ad)  (z : Hp) (Kp : Hp → Prop) (h : cal_X10_parents  z Kp) : kMet l yX10_parents cX10_parents 5 none 2 NM kdM D cA ad sa [.ref (ad 0)] z (kQv NM kdM D cA ad Kp) := by
  unfold cal_X10_parents at h
  refine k_met (cc := cX10_parents) (own := RX10) (nL := 5) rfl rfl (Nat.le_of_ble_eq_true rfl) hj kltM (fun p e s m below meth c X hrt hlk => ?_)
  refine k_sub (lv' := [(0, .ref (ad 0))]) [0] rfl ?_
  refine k_iconst X dX10_parents_0 ?_
  refine k_istore_n X dX10_parents_1 h (fun v1 => [(1, kI v1), (0, .ref (ad 0))]) (by decide) (fun _ => rfl) (fun v1 h => ?_)
  refine k_sub (lv' := [(0, .ref (ad 0)), (1, kI v1)]) [1, 0] rfl ?_
  refine h (fun v3 z4 => kAt p l e (kR 2) s m ([.ref (ad 0)] : List Value).toArray below meth c (MQ below (kQv NM kdM D cA ad Kp) ([.ref (ad 0)] : List Value).toArray s 0 0 (kA NM ad)) 5 NM kdM D cA ad 2 [(0, .ref (ad 0)), (1, kI v3)] [] z4) (fun v3 z4 h => ?_)
  refine k_iload_n X dX10_parents_2 1 rfl ?_
  refine k_bipush X dX10_parents_3 (by decide +kernel) ?_
  refine k_icmp_ge (tgt := 28) X dX10_parents_5 (by decide) ⟨h.1, ⟨by decide, by decide⟩, h.2⟩ (fun h => ?_) (fun h => ?_)
  · refine k_iconst X dX10_parents_28 ?_
    refine k_istore_n X dX10_parents_29 h (fun v5 => [(1, kI v5), (0, .ref (ad 0))]) (by decide) (fun _ => rfl) (fun v5 h => ?_)
    refine k_sub (lv' := [(0, .ref (ad 0)), (1, kI v5)]) [1, 0] rfl ?_
    refine h (fun v7 z8 => kAt p l e (kR 2) s m ([.ref (ad 0)] : List Value).toArray below meth c (MQ below (kQv NM kdM D cA ad Kp) ([.ref (ad 0)] : List Value).toArray s 0 0 (kA NM ad)) 5 NM kdM D cA ad 30 [(0, .ref (ad 0)), (1, kI v7)] [] z8) (fun v7 z8 h => ?_)
    refine k_iload_n X dX10_parents_30 1 rfl ?_
    refine k_aload_n X dX10_parents_31 0 rfl ?_
    refine k_getR (t := 1) X fk_X10_11 (by rfl) (by decide) rfl dX10_parents_32 ?_
    refine k_iconst X dX10_parents_35 ?_
    refine k_iald X kzM_1 (Nat.le_of_ble_eq_true rfl) dX10_parents_36 ⟨⟨by decide, by decide⟩, h⟩ (fun h => ?_)
    refine k_icmp_ge (tgt := 128) X dX10_parents_37 (by decide) h (fun h => ?_) (fun h => ?_)
    · refine k_iconst X dX10_parents_128 ?_
      refine k_istore_n X dX10_parents_129 h (fun v9 => [(1, kI v9), (0, .ref (ad 0))]) (by decide) (fun _ => rfl) (fun v9 h => ?_)
      refine k_sub (lv' := [(0, .ref (ad 0)), (1, kI v9)]) [1, 0] rfl ?_
      refine h (fun v11 z12 => kAt p l e (kR 2) s m ([.ref (ad 0)] : List Value).toArray below meth c (MQ below (kQv NM kdM D cA ad Kp) ([.ref (ad 0)] : List Value).toArray s 0 0 (kA NM ad)) 5 NM kdM D cA ad 130 [(0, .ref (ad 0)), (1, kI v11)] [] z12) (fun v11 z12 h => ?_)
      refine k_iload_n X dX10_parents_130 1 rfl ?_
      refine k_bipush X dX10_parents_131 (by decide +kernel) ?_
      refine k_icmp_ge (tgt := 161) X dX10_parents_133 (by decide) ⟨h.1, ⟨by decide, by decide⟩, h.2⟩ (fun h => ?_) (fun h => ?_)
      · refine k_iconst X dX10_parents_161 ?_
        refine k_istore_n X dX10_parents_162 h (fun v13 => [(1, kI v13), (0, .ref (ad 0))]) (by decide) (fun _ => rfl) (fun v13 h => ?_)
        refine k_sub (lv' := [(0, .ref (ad 0)), (1, kI v13)]) [1, 0] rfl ?_
        refine h (fun v15 z16 => kAt p l e (kR 2) s m ([.ref (ad 0)] : List Value).toArray below meth c (MQ below (kQv NM kdM D cA ad Kp) ([.ref (ad 0)] : List Value).toArray s 0 0 (kA NM ad)) 5 NM kdM D cA ad 163 [(0, .ref (ad 0)), (1, kI v15)] [] z16) (fun v15 z16 h => ?_)
        refine k_iload_n X dX10_parents_163 1 rfl ?_
        refine k_if_eq (tgt := 270) X dX10_parents_164 (by decide) h (fun h => ?_) (fun h => ?_)
        · exact k_vret X hrt hlk dX10_parents_270 h
        · refine k_iconst X dX10_parents_167 ?_
          refine k_istore_n X dX10_parents_168 h (fun v17 => [(1, kI v17), (0, .ref (ad 0))]) (by decide) (fun _ => rfl) (fun v17 h => ?_)
          refine k_iconst X dX10_parents_169 ?_
          refine k_istore_n X dX10_parents_170 h (fun v18 => [(2, kI v18), (1, kI v17), (0, .ref (ad 0))]) (by decide) (fun _ => rfl) (fun v18 h => ?_)
          refine k_sub (lv' := [(0, .ref (ad 0)), (1, kI v17), (2, kI v18)]) [2, 1, 0] rfl ?_
          refine h (fun v20 v21 z22 => kAt p l e (kR 2) s m ([.ref (ad 0)] : List Value).toArray below meth c (MQ below (kQv NM kdM D cA ad Kp) ([.ref (ad 0)] : List Value).toArray s 0 0 (kA NM ad)) 5 NM kdM D cA ad 171 [(0, .ref (ad 0)), (1, kI v20), (2, kI v21)] [] z22) (fun v20 v21 z22 h => ?_)
          refine k_iload_n X dX10_parents_171 2 rfl ?_
          refine k_aload_n X dX10_parents_172 0 rfl ?_
          refine k_getR (t := 1) X fk_X10_11 (by rfl) (by decide) rfl dX10_parents_173 ?_
          refine k_iconst X dX10_parents_176 ?_
          refine k_iald X kzM_1 (Nat.le_of_ble_eq_true rfl) dX10_parents_177 ⟨⟨by decide, by decide⟩, h⟩ (fun h => ?_)
          refine k_icmp_ge (tgt := 267) X dX10_parents_178 (by decide) h (fun h => ?_) (fun h => ?_)
          · refine k_goto (tgt := 163) X dX10_parents_267 (by decide) ?_
            exact k_sub [0, 1] rfl h
          · refine k_aload_n X dX10_parents_181 0 rfl ?_
            refine k_getR (t := 9) X fk_X10_36 (by rfl) (by decide) rfl dX10_parents_182 ?_
            refine k_iload_n X dX10_parents_185 2 rfl ?_
            refine k_iald X kzM_9 (Nat.le_of_ble_eq_true rfl) dX10_parents_186 h (fun h => ?_)
            refine k_istore_n X dX10_parents_187 h (fun v23 => [(3, kI v23), (0, .ref (ad 0)), (1, kI v20), (2, kI v21)]) (by decide) (fun _ => rfl) (fun v23 h => ?_)
            refine k_iconst X dX10_parents_188 ?_
            refine k_istore X dX10_parents_189 h (fun v24 => [(4, kI v24), (3, kI v23), (0, .ref (ad 0)), (1, kI v20), (2, kI v21)]) (by decide) (fun _ => rfl) (fun v24 h => ?_)
            refine k_sub (lv' := [(0, .ref (ad 0)), (1, kI v20), (2, kI v21), (3, kI v23), (4, kI v24)]) [2, 3, 4, 1, 0] rfl ?_
            refine h (fun v26 v27 => kAt p l e (kR 2) s m ([.ref (ad 0)] : List Value).toArray below meth c (MQ below (kQv NM kdM D cA ad Kp) ([.ref (ad 0)] : List Value).toArray s 0 0 (kA NM ad)) 5 NM kdM D cA ad 191 [(0, .ref (ad 0)), (1, kI v20), (2, kI v21), (3, kI v26), (4, kI v27)] [] z22) (fun v26 v27 h => ?_)
            refine k_iload X dX10_parents_191 4 rfl ?_
            refine k_aload_n X dX10_parents_193 0 rfl ?_
            refine k_getR (t := 1) X fk_X10_11 (by rfl) (by decide) rfl dX10_parents_194 ?_
            refine k_iconst X dX10_parents_197 ?_
            refine k_iald X kzM_1 (Nat.le_of_ble_eq_true rfl) dX10_parents_198 ⟨⟨by decide, by decide⟩, h⟩ (fun h => ?_)
            refine k_icmp_ge (tgt := 236) X dX10_parents_199 (by decide) h (fun h => ?_) (fun h => ?_)
            · refine k_iload_n X dX10_parents_236 1 rfl ?_
              refine k_iload_n X dX10_parents_237 3 rfl ?_
              refine k_aload_n X dX10_parents_238 0 rfl ?_
              refine k_getR (t := 9) X fk_X10_36 (by rfl) (by decide) rfl dX10_parents_239 ?_
              refine k_iload_n X dX10_parents_242 2 rfl ?_
              refine k_iald X kzM_9 (Nat.le_of_ble_eq_true rfl) dX10_parents_243 h (fun h => ?_)
              refine jn_use (fun J29 => ∀ (v28 : Int), J29 v28 → kAt p l e (kR 2) s m ([.ref (ad 0)] : List Value).toArray below meth c (MQ below (kQv NM kdM D cA ad Kp) ([.ref (ad 0)] : List Value).toArray s 0 0 (kA NM ad)) 5 NM kdM D cA ad 254 [(0, .ref (ad 0)), (1, kI v28), (2, kI v21), (3, kI v26)] [] z22) h ?_ (fun J29 hJ29 h => ?_)
              · intro v28 h
                refine k_aload_n X dX10_parents_254 0 rfl ?_
                refine k_getR (t := 9) X fk_X10_36 (by rfl) (by decide) rfl dX10_parents_255 ?_
                refine k_iload_n X dX10_parents_258 2 rfl ?_
                refine k_iload_n X dX10_parents_259 3 rfl ?_
                refine k_iast X kzM_9 (Nat.le_of_ble_eq_true rfl) dX10_parents_260 h (fun h => k_nameH h (fun z30 h => ?_))
                refine k_iinc X dX10_parents_261 2 rfl h (fun v31 => [(2, kI v31), (0, .ref (ad 0)), (1, kI v28), (3, kI v26)]) (by decide) (fun _ => rfl) (fun v31 h => ?_)
                refine k_goto (tgt := 171) X dX10_parents_264 (by decide) ?_
                exact k_sub [1, 2, 0] rfl h
              · refine k_icmp_eq (tgt := 251) X dX10_parents_244 (by decide) h (fun h => ?_) (fun h => ?_)
                · refine k_iconst X dX10_parents_251 ?_
                  refine k_ior X dX10_parents_252 ?_
                  refine k_istore_n X dX10_parents_253 h (fun v32 => [(1, kI v32), (0, .ref (ad 0)), (2, kI v21), (3, kI v26), (4, kI v27)]) (by decide) (fun _ => rfl) (fun v32 h => ?_)
                  exact k_sub [1, 0, 2, 3] rfl (hJ29 _ h)
                · refine k_iconst X dX10_parents_247 ?_
                  refine k_goto (tgt := 252) X dX10_parents_248 (by decide) ?_
                  refine k_ior X dX10_parents_252 ?_
                  refine k_istore_n X dX10_parents_253 h (fun v33 => [(1, kI v33), (0, .ref (ad 0)), (2, kI v21), (3, kI v26), (4, kI v27)]) (by decide) (fun _ => rfl) (fun v33 h => ?_)
                  exact k_sub [1, 0, 2, 3] rfl (hJ29 _ h)
            · refine k_iload_n X dX10_parents_202 3 rfl ?_
              refine k_aload_n X dX10_parents_203 0 rfl ?_
              refine k_getR (t := 9) X fk_X10_36 (by rfl) (by decide) rfl dX10_parents_204 ?_
              refine k_iload_n X dX10_parents_207 2 rfl ?_
              refine k_iald X kzM_9 (Nat.le_of_ble_eq_true rfl) dX10_parents_208 h (fun h => ?_)
              refine k_iload X dX10_parents_209 4 rfl ?_
              refine k_afterP (st := [kI v26]) (fun H locs ls hP hS hl => k_runS (As := [kI (z22 9 v21.toNat), kI v27]) X lk_X10_89 yo_X10_has rfl (kR_ok (by decide) (by decide)) (ct_X10_has (kCx_j X) _ _ _ _ h) (Nat.le_of_ble_eq_true rfl) dX10_parents_211 hP hS hl) (fun v34 h => ?_)
              refine jn_use (fun J36 => ∀ (v35 : Int), J36 v35 → kAt p l e (kR 2) s m ([.ref (ad 0)] : List Value).toArray below meth c (MQ below (kQv NM kdM D cA ad Kp) ([.ref (ad 0)] : List Value).toArray s 0 0 (kA NM ad)) 5 NM kdM D cA ad 230 [(0, .ref (ad 0)), (1, kI v20), (2, kI v21), (3, kI v35), (4, kI v27)] [] z22) h ?_ (fun J36 hJ36 h => ?_)
              · intro v35 h
                refine k_iinc X dX10_parents_230 4 rfl h (fun v37 => [(4, kI v37), (0, .ref (ad 0)), (1, kI v20), (2, kI v21), (3, kI v35)]) (by decide) (fun _ => rfl) (fun v37 h => ?_)
                refine k_goto (tgt := 191) X dX10_parents_233 (by decide) ?_
                exact k_sub [1, 2, 3, 4, 0] rfl h
              · refine k_if_eq (tgt := 227) X dX10_parents_214 (by decide) h (fun h => ?_) (fun h => ?_)
                · refine k_iconst X dX10_parents_227 ?_
                  refine k_ior X dX10_parents_228 ?_
                  refine k_istore_n X dX10_parents_229 h (fun v38 => [(3, kI v38), (0, .ref (ad 0)), (1, kI v20), (2, kI v21), (4, kI v27)]) (by decide) (fun _ => rfl) (fun v38 h => ?_)
                  exact k_sub [1, 2, 3, 0, 4] rfl (hJ36 _ h)
                · refine k_aload_n X dX10_parents_217 0 rfl ?_
                  refine k_getR (t := 9) X fk_X10_36 (by rfl) (by decide) rfl dX10_parents_218 ?_
                  refine k_iload X dX10_parents_221 4 rfl ?_
                  refine k_iald X kzM_9 (Nat.le_of_ble_eq_true rfl) dX10_parents_223 h (fun h => ?_)
                  refine k_goto (tgt := 228) X dX10_parents_224 (by decide) ?_
                  refine k_ior X dX10_parents_228 ?_
                  refine k_istore_n X dX10_parents_229 h (fun v39 => [(3, kI v39), (0, .ref (ad 0)), (1, kI v20), (2, kI v21), (4, kI v27)]) (by decide) (fun _ => rfl) (fun v39 h => ?_)
                  exact k_sub [1, 2, 3, 0, 4] rfl (hJ36 _ h)
      · refine k_aload_n X dX10_parents_136 0 rfl ?_
        refine k_getR (t := 9) X fk_X10_36 (by rfl) (by decide) rfl dX10_parents_137 ?_
        refine k_iload_n X dX10_parents_140 1 rfl ?_
        refine k_aload_n X dX10_parents_141 0 rfl ?_
        refine k_getR (t := 7) X fk_X10_30 (by rfl) (by decide) rfl dX10_parents_142 ?_
        refine k_iload_n X dX10_parents_145 1 rfl ?_
        refine k_iald X kzM_7 (Nat.le_of_ble_eq_true rfl) dX10_parents_146 h (fun h => ?_)
        refine k_aload_n X dX10_parents_147 0 rfl ?_
        refine k_getR (t := 8) X fk_X10_33 (by rfl) (by decide) rfl dX10_parents_148 ?_
        refine k_iload_n X dX10_parents_151 1 rfl ?_
        refine k_iald X kzM_8 (Nat.le_of_ble_eq_true rfl) dX10_parents_152 h (fun h => ?_)
        refine k_ior X dX10_parents_153 ?_
        refine k_iast X kzM_9 (Nat.le_of_ble_eq_true rfl) dX10_parents_154 h (fun h => k_nameH h (fun z40 h => ?_))
        refine k_iinc X dX10_parents_155 1 rfl h (fun v41 => [(1, kI v41), (0, .ref (ad 0))]) (by decide) (fun _ => rfl) (fun v41 h => ?_)
        refine k_goto (tgt := 130) X dX10_parents_158 (by decide) ?_
        exact k_sub [1, 0] rfl h
    · refine k_aload_n X dX10_parents_40 0 rfl ?_
      refine k_iload_n X dX10_parents_41 1 rfl ?_
      refine k_iconst X dX10_parents_42 ?_
      refine k_afterP (st := []) (fun H locs ls hP hS hl => k_runV (As := [kI v7, kI 2]) X lk_X10_80 rfl yo_X10_isLive rfl (kR_ok (by decide) (by decide)) (ct_X10_isLive (kCx_j X) _ _ _ _ h) (by rfl) rfl (Nat.le_of_ble_eq_true rfl) dX10_parents_43 hP hS hl) (fun v42 h => ?_)
      refine jn_use (fun J43 => ∀ (z44 : Hp), J43 z44 → kAt p l e (kR 2) s m ([.ref (ad 0)] : List Value).toArray below meth c (MQ below (kQv NM kdM D cA ad Kp) ([.ref (ad 0)] : List Value).toArray s 0 0 (kA NM ad)) 5 NM kdM D cA ad 81 [(0, .ref (ad 0)), (1, kI v7)] [] z44) h ?_ (fun J43 hJ43 h => ?_)
      · intro z44 h
        refine k_aload_n X dX10_parents_81 0 rfl ?_
        refine k_iload_n X dX10_parents_82 1 rfl ?_
        refine k_iconst X dX10_parents_83 ?_
        refine k_afterP (st := []) (fun H locs ls hP hS hl => k_runV (As := [kI v7, kI 3]) X lk_X10_80 rfl yo_X10_isLive rfl (kR_ok (by decide) (by decide)) (ct_X10_isLive (kCx_j X) _ _ _ _ h) (by rfl) rfl (Nat.le_of_ble_eq_true rfl) dX10_parents_84 hP hS hl) (fun v45 h => ?_)
        refine jn_use (fun J46 => ∀ (z47 : Hp), J46 z47 → kAt p l e (kR 2) s m ([.ref (ad 0)] : List Value).toArray below meth c (MQ below (kQv NM kdM D cA ad Kp) ([.ref (ad 0)] : List Value).toArray s 0 0 (kA NM ad)) 5 NM kdM D cA ad 122 [(0, .ref (ad 0)), (1, kI v7)] [] z47) h ?_ (fun J46 hJ46 h => ?_)
        · intro z47 h
          refine k_iinc X dX10_parents_122 1 rfl h (fun v48 => [(1, kI v48), (0, .ref (ad 0))]) (by decide) (fun _ => rfl) (fun v48 h => ?_)
          refine k_goto (tgt := 30) X dX10_parents_125 (by decide) ?_
          exact k_sub [1, 0] rfl h
        · refine k_if_eq (tgt := 122) X dX10_parents_87 (by decide) h (fun h => ?_) (fun h => ?_)
          · exact k_sub [0, 1] rfl (hJ46 _ h)
          · refine k_aload_n X dX10_parents_90 0 rfl ?_
            refine k_getR (t := 8) X fk_X10_33 (by rfl) (by decide) rfl dX10_parents_91 ?_
            refine k_aload_n X dX10_parents_94 0 rfl ?_
            refine k_getR (t := 6) X fk_X10_27 (by rfl) (by decide) rfl dX10_parents_95 ?_
            refine k_aload_n X dX10_parents_98 0 rfl ?_
            refine k_iload_n X dX10_parents_99 1 rfl ?_
            refine k_iconst X dX10_parents_100 ?_
            refine k_afterP (st := [.ref (ad 6), .ref (ad 8)]) (fun H locs ls hP hS hl => k_runV (As := [kI v7, kI 1]) X lk_X10_76 rfl yo_X10_told rfl (kR_ok (by decide) (by decide)) (ct_X10_told (kCx_j X) _ _ _ _ h) (by rfl) rfl (Nat.le_of_ble_eq_true rfl) dX10_parents_101 hP hS hl) (fun v49 h => ?_)
            refine k_iald X kzM_6 (Nat.le_of_ble_eq_true rfl) dX10_parents_104 h (fun h => ?_)
            refine k_dup2 X dX10_parents_105 rfl rfl ?_
            refine k_iald X kzM_8 (Nat.le_of_ble_eq_true rfl) dX10_parents_106 h (fun h => ?_)
            refine k_iconst X dX10_parents_107 ?_
            refine k_aload_n X dX10_parents_108 0 rfl ?_
            refine k_getR (t := 6) X fk_X10_27 (by rfl) (by decide) rfl dX10_parents_109 ?_
            refine k_aload_n X dX10_parents_112 0 rfl ?_
            refine k_iload_n X dX10_parents_113 1 rfl ?_
            refine k_iconst X dX10_parents_114 ?_
            refine k_afterP (st := [.ref (ad 6), kI 1, kI (z44 8 (z44 6 v49.toNat).toNat), kI (z44 6 v49.toNat), .ref (ad 8)]) (fun H locs ls hP hS hl => k_runV (As := [kI v7, kI 2]) X lk_X10_76 rfl yo_X10_told rfl (kR_ok (by decide) (by decide)) (ct_X10_told (kCx_j X) _ _ _ _ h) (by rfl) rfl (Nat.le_of_ble_eq_true rfl) dX10_parents_115 hP hS hl) (fun v50 h => ?_)
            refine k_iald X kzM_6 (Nat.le_of_ble_eq_true rfl) dX10_parents_118 h (fun h => ?_)
            refine k_ishl X dX10_parents_119 ?_
            refine k_ior X dX10_parents_120 ?_
            refine k_iast X kzM_8 (Nat.le_of_ble_eq_true rfl) dX10_parents_121 h (fun h => k_nameH h (fun z51 h => ?_))
            exact k_sub [0, 1] rfl (hJ46 _ h)
      · refine k_if_eq (tgt := 81) X dX10_parents_46 (by decide) h (fun h => ?_) (fun h => ?_)
        · exact k_sub [0, 1] rfl (hJ43 _ h)
        · refine k_aload_n X dX10_parents_49 0 rfl ?_
          refine k_getR (t := 7) X fk_X10_30 (by rfl) (by decide) rfl dX10_parents_50 ?_
          refine k_aload_n X dX10_parents_53 0 rfl ?_
          refine k_getR (t := 6) X fk_X10_27 (by rfl) (by decide) rfl dX10_parents_54 ?_
          refine k_aload_n X dX10_parents_57 0 rfl ?_
          refine k_iload_n X dX10_parents_58 1 rfl ?_
          refine k_iconst X dX10_parents_59 ?_
          refine k_afterP (st := [.ref (ad 6), .ref (ad 7)]) (fun H locs ls hP hS hl => k_runV (As := [kI v7, kI 1]) X lk_X10_76 rfl yo_X10_told rfl (kR_ok (by decide) (by decide)) (ct_X10_told (kCx_j X) _ _ _ _ h) (by rfl) rfl (Nat.le_of_ble_eq_true rfl) dX10_parents_60 hP hS hl) (fun v52 h => ?_)
          refine k_iald X kzM_6 (Nat.le_of_ble_eq_true rfl) dX10_parents_63 h (fun h => ?_)
          refine k_dup2 X dX10_parents_64 rfl rfl ?_
          refine k_iald X kzM_7 (Nat.le_of_ble_eq_true rfl) dX10_parents_65 h (fun h => ?_)
          refine k_iconst X dX10_parents_66 ?_
          refine k_aload_n X dX10_parents_67 0 rfl ?_
          refine k_getR (t := 6) X fk_X10_27 (by rfl) (by decide) rfl dX10_parents_68 ?_
          refine k_aload_n X dX10_parents_71 0 rfl ?_
          refine k_iload_n X dX10_parents_72 1 rfl ?_
          refine k_iconst X dX10_parents_73 ?_
          refine k_afterP (st := [.ref (ad 6), kI 1, kI (z8 7 (z8 6 v52.toNat).toNat), kI (z8 6 v52.toNat), .ref (ad 7)]) (fun H locs ls hP hS hl => k_runV (As := [kI v7, kI 2]) X lk_X10_76 rfl yo_X10_told rfl (kR_ok (by decide) (by decide)) (ct_X10_told (kCx_j X) _ _ _ _ h) (by rfl) rfl (Nat.le_of_ble_eq_true rfl) dX10_parents_74 hP hS hl) (fun v53 h => ?_)
          refine k_iald X kzM_6 (Nat.le_of_ble_eq_true rfl) dX10_parents_77 h (fun h => ?_)
          refine k_ishl X dX10_parents_78 ?_
          refine k_ior X dX10_parents_79 ?_
          refine k_iast X kzM_7 (Nat.le_of_ble_eq_true rfl) dX10_parents_80 h (fun h => k_nameH h (fun z54 h => ?_))
          exact k_sub [0, 1] rfl (hJ43 _ h)
  · refine k_aload_n X dX10_parents_8 0 rfl ?_
    refine k_getR (t := 7) X fk_X10_30 (by rfl) (by decide) rfl dX10_parents_9 ?_
    refine k_iload_n X dX10_parents_12 1 rfl ?_
    refine k_iconst X dX10_parents_13 ?_
    refine k_iast X kzM_7 (Nat.le_of_ble_eq_true rfl) dX10_parents_14 h (fun h => k_nameH h (fun z55 h => ?_))
    refine k_aload_n X dX10_parents_15 0 rfl ?_
    refine k_getR (t := 8) X fk_X10_33 (by rfl) (by decide) rfl dX10_parents_16 ?_
    refine k_iload_n X dX10_parents_19 1 rfl ?_
    refine k_iconst X dX10_parents_20 ?_
    refine k_iast X kzM_8 (Nat.le_of_ble_eq_true rfl) dX10_parents_21 h (fun h => k_nameH h (fun z56 h => ?_))
    refine k_iinc X dX10_parents_22 1 rfl h (fun v57 => [(1, kI v57), (0, .ref (ad 0))]) (by decide) (fun _ => rfl) (fun v57 h => ?_)
    refine k_goto (tgt := 2) X dX10_parents_25 (by decide) ?_
    exact k_sub [1, 0] rfl h
set_option maxHeartbeats 4000000 in
set_option maxRecDepth 100000 in
theorem ct_X10_works {l : Launch} {D : va_G} {cA : Nat → ClassId} {ad sa : Nat → Nat} (hj : kInj NM ad)  (z : Hp) (Kp : Hp → Prop) (h : cal_X10_works  z Kp) : kMet l yX10_works cX10_works 2 none 4 NM kdM D cA ad sa [.ref (ad 0)] z (kQv NM kdM D cA ad Kp) := by
  unfold cal_X10_works at h
  refine k_met (cc := cX10_works) (own := RX10) (nL := 2) rfl rfl (Nat.le_of_ble_eq_true rfl) hj kltM (fun p e s m below meth c X hrt hlk => ?_)
  refine k_sub (lv' := [(0, .ref (ad 0))]) [0] rfl ?_
  refine k_aload_n X dX10_works_0 0 rfl ?_
  refine k_afterV (st := []) (fun H locs ls hP hS hl => k_runV (As := []) X lk_X10_144 rfl yo_X10_joins rfl (kR_ok (by decide) (by decide)) (ct_X10_joins (kCx_j X)  _ _ h) (by rfl) rfl (Nat.le_of_ble_eq_true rfl) dX10_works_1 hP hS hl) (fun z1 h => ?_)
  refine k_aload_n X dX10_works_4 0 rfl ?_
  refine k_afterV (st := []) (fun H locs ls hP hS hl => k_runV (As := []) X lk_X10_147 rfl yo_X10_parents rfl (kR_ok (by decide) (by decide)) (ct_X10_parents (kCx_j X)  _ _ h) (by rfl) rfl (Nat.le_of_ble_eq_true rfl) dX10_works_5 hP hS hl) (fun z2 h => ?_)
  refine k_aload_n X dX10_works_8 0 rfl ?_
  refine k_iconst X dX10_works_9 ?_
  refine k_putI X fp_X10_96 (by rfl) rfl dX10_works_10 (k_nameH h (fun z3 h => ?_))
  refine k_aload_n X dX10_works_13 0 rfl ?_
  refine k_bipush X dX10_works_14 (by decide +kernel) ?_
  refine k_putI X fp_X10_100 (by rfl) rfl dX10_works_16 (k_nameH h (fun z4 h => ?_))
  refine k_aload_n X dX10_works_19 0 rfl ?_
  refine k_iconst X dX10_works_20 ?_
  refine k_putI X fp_X10_150 (by rfl) rfl dX10_works_21 (k_nameH h (fun z5 h => ?_))
  refine k_iconst X dX10_works_24 ?_
  refine k_istore_n X dX10_works_25 h (fun v6 => [(1, kI v6), (0, .ref (ad 0))]) (by decide) (fun _ => rfl) (fun v6 h => ?_)
  refine k_sub (lv' := [(0, .ref (ad 0)), (1, kI v6)]) [1, 0] rfl ?_
  refine h (fun v8 z9 => kAt p l e (kR 4) s m ([.ref (ad 0)] : List Value).toArray below meth c (MQ below (kQv NM kdM D cA ad Kp) ([.ref (ad 0)] : List Value).toArray s 0 0 (kA NM ad)) 2 NM kdM D cA ad 26 [(0, .ref (ad 0)), (1, kI v8)] [] z9) (fun v8 z9 h => ?_)
  refine k_iload_n X dX10_works_26 1 rfl ?_
  refine k_sipush X dX10_works_27 (by decide +kernel) ?_
  refine k_icmp_ge (tgt := 74) X dX10_works_30 (by decide) ⟨h.1, ⟨by decide, by decide⟩, h.2⟩ (fun h => ?_) (fun h => ?_)
  · refine k_aload_n X dX10_works_74 0 rfl ?_
    refine k_afterV (st := []) (fun H locs ls hP hS hl => k_runV (As := []) X lk_X10_153 rfl yo_X10_looks rfl (kR_ok (by decide) (by decide)) (ct_X10_looks (kCx_j X)  _ _ h) (by rfl) rfl (Nat.le_of_ble_eq_true rfl) dX10_works_75 hP hS hl) (fun z10 h => ?_)
    refine k_aload_n X dX10_works_78 0 rfl ?_
    refine k_getI X fk_X10_96 (by rfl) rfl dX10_works_79 ?_
    refine k_if_eq (tgt := 86) X dX10_works_82 (by decide) h (fun h => ?_) (fun h => ?_)
    · refine k_aload_n X dX10_works_86 0 rfl ?_
      refine k_iconst X dX10_works_87 ?_
      refine k_putZ X fp_X10_120 (by rfl) rfl (Or.inr rfl) dX10_works_88 (k_nameH h (fun z11 h => ?_))
      refine k_sub (lv' := [(0, .ref (ad 0))]) [0] rfl ?_
      refine h (fun z13 => kAt p l e (kR 4) s m ([.ref (ad 0)] : List Value).toArray below meth c (MQ below (kQv NM kdM D cA ad Kp) ([.ref (ad 0)] : List Value).toArray s 0 0 (kA NM ad)) 2 NM kdM D cA ad 91 [(0, .ref (ad 0))] [] z13) (fun z13 h => ?_)
      refine k_aload_n X dX10_works_91 0 rfl ?_
      refine k_getI X fk_X10_120 (by rfl) rfl dX10_works_92 ?_
      refine k_if_eq (tgt := 207) X dX10_works_95 (by decide) h (fun h => ?_) (fun h => ?_)
      · exact k_vret X hrt hlk dX10_works_207 h
      · refine k_aload_n X dX10_works_98 0 rfl ?_
        refine k_getI X fk_X10_96 (by rfl) rfl dX10_works_99 ?_
        refine k_if_ne (tgt := 207) X dX10_works_102 (by decide) h (fun h => ?_) (fun h => ?_)
        · exact k_vret X hrt hlk dX10_works_207 h
        · refine k_aload_n X dX10_works_105 0 rfl ?_
          refine k_iconst X dX10_works_106 ?_
          refine k_putZ X fp_X10_120 (by rfl) rfl (Or.inl rfl) dX10_works_107 (k_nameH h (fun z14 h => ?_))
          refine k_aload_n X dX10_works_110 0 rfl ?_
          refine k_dup X dX10_works_111 rfl ?_
          refine k_getI X fk_X10_150 (by rfl) rfl dX10_works_112 ?_
          refine k_iconst X dX10_works_115 ?_
          refine k_iadd X dX10_works_116 ?_
          refine k_putI X fp_X10_150 (by rfl) rfl dX10_works_117 (k_nameH h (fun z15 h => ?_))
          refine k_iconst X dX10_works_120 ?_
          refine k_istore_n X dX10_works_121 h (fun v16 => [(1, kI v16), (0, .ref (ad 0))]) (by decide) (fun _ => rfl) (fun v16 h => ?_)
          refine k_sub (lv' := [(0, .ref (ad 0)), (1, kI v16)]) [1, 0] rfl ?_
          refine h (fun v18 z19 => kAt p l e (kR 4) s m ([.ref (ad 0)] : List Value).toArray below meth c (MQ below (kQv NM kdM D cA ad Kp) ([.ref (ad 0)] : List Value).toArray s 0 0 (kA NM ad)) 2 NM kdM D cA ad 122 [(0, .ref (ad 0)), (1, kI v18)] [] z19) (fun v18 z19 h => ?_)
          refine k_iload_n X dX10_works_122 1 rfl ?_
          refine k_aload_n X dX10_works_123 0 rfl ?_
          refine k_getR (t := 1) X fk_X10_11 (by rfl) (by decide) rfl dX10_works_124 ?_
          refine k_iconst X dX10_works_127 ?_
          refine k_iald X kzM_1 (Nat.le_of_ble_eq_true rfl) dX10_works_128 ⟨⟨by decide, by decide⟩, h⟩ (fun h => ?_)
          refine k_icmp_ge (tgt := 171) X dX10_works_129 (by decide) h (fun h => ?_) (fun h => ?_)
          · refine k_iconst X dX10_works_171 ?_
            refine k_istore_n X dX10_works_172 h (fun v20 => [(1, kI v20), (0, .ref (ad 0))]) (by decide) (fun _ => rfl) (fun v20 h => ?_)
            refine k_sub (lv' := [(0, .ref (ad 0)), (1, kI v20)]) [1, 0] rfl ?_
            refine h (fun v22 z23 => kAt p l e (kR 4) s m ([.ref (ad 0)] : List Value).toArray below meth c (MQ below (kQv NM kdM D cA ad Kp) ([.ref (ad 0)] : List Value).toArray s 0 0 (kA NM ad)) 2 NM kdM D cA ad 173 [(0, .ref (ad 0)), (1, kI v22)] [] z23) (fun v22 z23 h => ?_)
            refine k_iload_n X dX10_works_173 1 rfl ?_
            refine k_aload_n X dX10_works_174 0 rfl ?_
            refine k_getR (t := 1) X fk_X10_11 (by rfl) (by decide) rfl dX10_works_175 ?_
            refine k_iconst X dX10_works_178 ?_
            refine k_iald X kzM_1 (Nat.le_of_ble_eq_true rfl) dX10_works_179 ⟨⟨by decide, by decide⟩, h⟩ (fun h => ?_)
            refine k_icmp_ge (tgt := 204) X dX10_works_180 (by decide) h (fun h => ?_) (fun h => ?_)
            · refine k_goto (tgt := 91) X dX10_works_204 (by decide) ?_
              exact k_sub [0] rfl h
            · refine k_aload_n X dX10_works_183 0 rfl ?_
              refine k_iload_n X dX10_works_184 1 rfl ?_
              refine k_iconst X dX10_works_185 ?_
              refine k_afterP (st := []) (fun H locs ls hP hS hl => k_runV (As := [kI v22, kI 5]) X lk_X10_76 rfl yo_X10_told rfl (kR_ok (by decide) (by decide)) (ct_X10_told (kCx_j X) _ _ _ _ h) (by rfl) rfl (Nat.le_of_ble_eq_true rfl) dX10_works_186 hP hS hl) (fun v24 h => ?_)
              refine k_iconst X dX10_works_189 ?_
              refine jn_use (fun J25 => ∀ (z26 : Hp), J25 z26 → kAt p l e (kR 4) s m ([.ref (ad 0)] : List Value).toArray below meth c (MQ below (kQv NM kdM D cA ad Kp) ([.ref (ad 0)] : List Value).toArray s 0 0 (kA NM ad)) 2 NM kdM D cA ad 198 [(0, .ref (ad 0)), (1, kI v22)] [] z26) h ?_ (fun J25 hJ25 h => ?_)
              · intro z26 h
                refine k_iinc X dX10_works_198 1 rfl h (fun v27 => [(1, kI v27), (0, .ref (ad 0))]) (by decide) (fun _ => rfl) (fun v27 h => ?_)
                refine k_goto (tgt := 173) X dX10_works_201 (by decide) ?_
                exact k_sub [1, 0] rfl h
              · refine k_icmp_ne (tgt := 198) X dX10_works_190 (by decide) ⟨h.1, ⟨by decide, by decide⟩, h.2⟩ (fun h => ?_) (fun h => ?_)
                · exact k_sub [0, 1] rfl (hJ25 _ h)
                · refine k_aload_n X dX10_works_193 0 rfl ?_
                  refine k_iload_n X dX10_works_194 1 rfl ?_
                  refine k_afterV (st := []) (fun H locs ls hP hS hl => k_runV (As := [kI v22]) X lk_X10_156 rfl yo_X10_applies rfl (kR_ok (by decide) (by decide)) (ct_X10_applies (kCx_j X) _ _ _ h) (by rfl) rfl (Nat.le_of_ble_eq_true rfl) dX10_works_195 hP hS hl) (fun z28 h => ?_)
                  exact k_sub [0, 1] rfl (hJ25 _ h)
          · refine k_aload_n X dX10_works_132 0 rfl ?_
            refine k_bipush X dX10_works_133 (by decide +kernel) ?_
            refine k_iload_n X dX10_works_135 1 rfl ?_
            refine k_iadd X dX10_works_136 ?_
            refine k_putI X fp_X10_117 (by rfl) rfl dX10_works_137 (k_nameH h (fun z29 h => ?_))
            refine k_aload_n X dX10_works_140 0 rfl ?_
            refine k_iload_n X dX10_works_141 1 rfl ?_
            refine k_afterP (st := []) (fun H locs ls hP hS hl => k_runV (As := [kI v18]) X lk_X10_103 rfl yo_X10_isOne rfl (kR_ok (by decide) (by decide)) (ct_X10_isOne (kCx_j X) _ _ _ h) (by rfl) rfl (Nat.le_of_ble_eq_true rfl) dX10_works_142 hP hS hl) (fun v30 h => ?_)
            refine jn_use (fun J31 => ∀ (z32 : Hp), J31 z32 → kAt p l e (kR 4) s m ([.ref (ad 0)] : List Value).toArray below meth c (MQ below (kQv NM kdM D cA ad Kp) ([.ref (ad 0)] : List Value).toArray s 0 0 (kA NM ad)) 2 NM kdM D cA ad 165 [(0, .ref (ad 0)), (1, kI v18)] [] z32) h ?_ (fun J31 hJ31 h => ?_)
            · intro z32 h
              refine k_iinc X dX10_works_165 1 rfl h (fun v33 => [(1, kI v33), (0, .ref (ad 0))]) (by decide) (fun _ => rfl) (fun v33 h => ?_)
              refine k_goto (tgt := 122) X dX10_works_168 (by decide) ?_
              exact k_sub [1, 0] rfl h
            · refine k_if_eq (tgt := 165) X dX10_works_145 (by decide) h (fun h => ?_) (fun h => ?_)
              · exact k_sub [0, 1] rfl (hJ31 _ h)
              · refine k_aload_n X dX10_works_148 0 rfl ?_
                refine k_iload_n X dX10_works_149 1 rfl ?_
                refine k_afterP (st := [.ref (ad 0)]) (fun H locs ls hP hS hl => k_runS (As := [kI v18]) X lk_X10_128 yo_X10_bornOf rfl (kR_ok (by decide) (by decide)) (ct_X10_bornOf (kCx_j X) _ _ _ h) (Nat.le_of_ble_eq_true rfl) dX10_works_150 hP hS hl) (fun v34 h => ?_)
                refine k_iconst X dX10_works_153 ?_
                refine k_iadd X dX10_works_154 ?_
                refine k_iload_n X dX10_works_155 1 rfl ?_
                refine k_afterP (st := [kI (v34 + 1), .ref (ad 0)]) (fun H locs ls hP hS hl => k_runS (As := [kI v18]) X lk_X10_128 yo_X10_bornOf rfl (kR_ok (by decide) (by decide)) (ct_X10_bornOf (kCx_j X) _ _ _ h) (Nat.le_of_ble_eq_true rfl) dX10_works_156 hP hS hl) (fun v35 h => ?_)
                refine k_iconst X dX10_works_159 ?_
                refine k_bipush X dX10_works_160 (by decide +kernel) ?_
                refine k_afterV (st := []) (fun H locs ls hP hS hl => k_runV (As := [kI (v34 + 1), kI v35, kI 0, kI 110]) X lk_X10_131 rfl yo_X10_differ rfl (kR_ok (by decide) (by decide)) (ct_X10_differ (kCx_j X) _ _ _ _ _ _ h) (by rfl) rfl (Nat.le_of_ble_eq_true rfl) dX10_works_162 hP hS hl) (fun z36 h => ?_)
                exact k_sub [0, 1] rfl (hJ31 _ h)
    · exact k_vret X hrt hlk dX10_works_85 h
  · refine k_aload_n X dX10_works_33 0 rfl ?_
    refine k_getR (t := 10) X fk_X10_39 (by rfl) (by decide) rfl dX10_works_34 ?_
    refine k_iload_n X dX10_works_37 1 rfl ?_
    refine k_iload_n X dX10_works_38 1 rfl ?_
    refine k_iconst X dX10_works_39 ?_
    refine k_irem X dX10_works_40 ⟨by decide, by decide⟩ h (fun h => ?_)
    refine jn_use (fun J37 => ∀ (z38 : Hp), J37 z38 → kAt p l e (kR 4) s m ([.ref (ad 0)] : List Value).toArray below meth c (MQ below (kQv NM kdM D cA ad Kp) ([.ref (ad 0)] : List Value).toArray s 0 0 (kA NM ad)) 2 NM kdM D cA ad 52 [(0, .ref (ad 0)), (1, kI v8)] [] z38) h ?_ (fun J37 hJ37 h => ?_)
    · intro z38 h
      refine k_aload_n X dX10_works_52 0 rfl ?_
      refine k_getR (t := 11) X fk_X10_42 (by rfl) (by decide) rfl dX10_works_53 ?_
      refine k_iload_n X dX10_works_56 1 rfl ?_
      refine k_bipush X dX10_works_57 (by decide +kernel) ?_
      refine k_iast X kzM_11 (Nat.le_of_ble_eq_true rfl) dX10_works_59 h (fun h => k_nameH h (fun z39 h => ?_))
      refine k_aload_n X dX10_works_60 0 rfl ?_
      refine k_getR (t := 12) X fk_X10_45 (by rfl) (by decide) rfl dX10_works_61 ?_
      refine k_iload_n X dX10_works_64 1 rfl ?_
      refine k_bipush X dX10_works_65 (by decide +kernel) ?_
      refine k_iast X kzM_12 (Nat.le_of_ble_eq_true rfl) dX10_works_67 h (fun h => k_nameH h (fun z40 h => ?_))
      refine k_iinc X dX10_works_68 1 rfl h (fun v41 => [(1, kI v41), (0, .ref (ad 0))]) (by decide) (fun _ => rfl) (fun v41 h => ?_)
      refine k_goto (tgt := 26) X dX10_works_71 (by decide) ?_
      exact k_sub [1, 0] rfl h
    · refine k_if_ne (tgt := 48) X dX10_works_41 (by decide) h (fun h => ?_) (fun h => ?_)
      · refine k_sipush X dX10_works_48 (by decide +kernel) ?_
        refine k_iast X kzM_10 (Nat.le_of_ble_eq_true rfl) dX10_works_51 h (fun h => k_nameH h (fun z42 h => ?_))
        exact k_sub [0, 1] rfl (hJ37 _ h)
      · refine k_iconst X dX10_works_44 ?_
        refine k_goto (tgt := 51) X dX10_works_45 (by decide) ?_
        refine k_iast X kzM_10 (Nat.le_of_ble_eq_true rfl) dX10_works_51 h (fun h => k_nameH h (fun z43 h => ?_))
        exact k_sub [0, 1] rfl (hJ37 _ h)
set_option maxHeartbeats 4000000 in
set_option maxRecDepth 100000 in
theorem ct_X10_comes {l : Launch} {D : va_G} {cA : Nat → ClassId} {ad sa : Nat → Nat} (hj : kInj NM ad) (a1 : Int) (z : Hp) (Kp : Hp → Prop) (h : cal_X10_comes a1 z Kp) : kMet l yX10_comes cX10_comes 3 none 5 NM kdM D cA ad sa [.ref (ad 0), kI a1] z (kQv NM kdM D cA ad Kp) := by
  unfold cal_X10_comes at h
  refine k_met (cc := cX10_comes) (own := RX10) (nL := 3) rfl rfl (Nat.le_of_ble_eq_true rfl) hj kltM (fun p e s m below meth c X hrt hlk => ?_)
  refine k_sub (lv' := [(0, .ref (ad 0)), (1, kI a1)]) [0, 1] rfl ?_
  refine k_aload_n X dX10_comes_0 0 rfl ?_
  refine k_getR (t := 5) X fk_X10_24 (by rfl) (by decide) rfl dX10_comes_1 ?_
  refine k_iconst X dX10_comes_4 ?_
  refine k_iload_n X dX10_comes_5 1 rfl ?_
  refine k_iast X kzM_5 (Nat.le_of_ble_eq_true rfl) dX10_comes_6 ⟨⟨by decide, by decide⟩, h⟩ (fun h => k_nameH h (fun z1 h => ?_))
  refine k_iconst X dX10_comes_7 ?_
  refine k_istore_n X dX10_comes_8 h (fun v2 => [(2, kI v2), (0, .ref (ad 0)), (1, kI a1)]) (by decide) (fun _ => rfl) (fun v2 h => ?_)
  refine k_sub (lv' := [(0, .ref (ad 0)), (2, kI v2)]) [1, 0] rfl ?_
  refine h (fun v4 z5 => kAt p l e (kR 5) s m ([.ref (ad 0), kI a1] : List Value).toArray below meth c (MQ below (kQv NM kdM D cA ad Kp) ([.ref (ad 0), kI a1] : List Value).toArray s 0 0 (kA NM ad)) 3 NM kdM D cA ad 9 [(0, .ref (ad 0)), (2, kI v4)] [] z5) (fun v4 z5 h => ?_)
  refine k_iload_n X dX10_comes_9 1 rfl ?_
  refine k_bipush X dX10_comes_10 (by decide +kernel) ?_
  refine k_icmp_ge (tgt := 47) X dX10_comes_12 (by decide) ⟨h.1, ⟨by decide, by decide⟩, h.2⟩ (fun h => ?_) (fun h => ?_)
  · refine k_aload_n X dX10_comes_47 0 rfl ?_
    refine k_getR (t := 1) X fk_X10_11 (by rfl) (by decide) rfl dX10_comes_48 ?_
    refine k_iconst X dX10_comes_51 ?_
    refine k_dup2 X dX10_comes_52 rfl rfl ?_
    refine k_iald X kzM_1 (Nat.le_of_ble_eq_true rfl) dX10_comes_53 ⟨⟨by decide, by decide⟩, h⟩ (fun h => ?_)
    refine k_iconst X dX10_comes_54 ?_
    refine k_iadd X dX10_comes_55 ?_
    refine k_iast X kzM_1 (Nat.le_of_ble_eq_true rfl) dX10_comes_56 ⟨⟨by decide, by decide⟩, h⟩ (fun h => k_nameH h (fun z6 h => ?_))
    refine k_aload_n X dX10_comes_57 0 rfl ?_
    refine k_afterV (st := []) (fun H locs ls hP hS hl => k_runV (As := []) X lk_X10_69 rfl yo_X10_works rfl (kR_ok (by decide) (by decide)) (ct_X10_works (kCx_j X)  _ _ h) (by rfl) rfl (Nat.le_of_ble_eq_true rfl) dX10_comes_58 hP hS hl) (fun z7 h => ?_)
    exact k_vret X hrt hlk dX10_comes_61 h
  · refine k_aload_n X dX10_comes_15 0 rfl ?_
    refine k_getR (t := 1) X fk_X10_11 (by rfl) (by decide) rfl dX10_comes_16 ?_
    refine k_sipush X dX10_comes_19 (by decide +kernel) ?_
    refine k_bipush X dX10_comes_22 (by decide +kernel) ?_
    refine k_aload_n X dX10_comes_24 0 rfl ?_
    refine k_getR (t := 1) X fk_X10_11 (by rfl) (by decide) rfl dX10_comes_25 ?_
    refine k_iconst X dX10_comes_28 ?_
    refine k_iald X kzM_1 (Nat.le_of_ble_eq_true rfl) dX10_comes_29 ⟨⟨by decide, by decide⟩, h⟩ (fun h => ?_)
    refine k_imul X dX10_comes_30 ?_
    refine k_iadd X dX10_comes_31 ?_
    refine k_iload_n X dX10_comes_32 1 rfl ?_
    refine k_iadd X dX10_comes_33 ?_
    refine k_aload_n X dX10_comes_34 0 rfl ?_
    refine k_getR (t := 5) X fk_X10_24 (by rfl) (by decide) rfl dX10_comes_35 ?_
    refine k_iload_n X dX10_comes_38 1 rfl ?_
    refine k_iald X kzM_5 (Nat.le_of_ble_eq_true rfl) dX10_comes_39 h (fun h => ?_)
    refine k_iast X kzM_1 (Nat.le_of_ble_eq_true rfl) dX10_comes_40 h (fun h => k_nameH h (fun z8 h => ?_))
    refine k_iinc X dX10_comes_41 1 rfl h (fun v9 => [(2, kI v9), (0, .ref (ad 0))]) (by decide) (fun _ => rfl) (fun v9 h => ?_)
    refine k_goto (tgt := 9) X dX10_comes_44 (by decide) ?_
    exact k_sub [1, 0] rfl h
set_option maxHeartbeats 4000000 in
set_option maxRecDepth 100000 in
theorem ct_X10_steps {l : Launch} {D : va_G} {cA : Nat → ClassId} {ad sa : Nat → Nat} (hj : kInj NM ad) (a1 : Int) (r2 : Nat) (hr2 : kdM r2 = (1, 30, 0)) (z : Hp) (Kp : Hp → Prop) (h : cal_X10_steps a1 r2 z Kp) : kMet l yX10_steps cX10_steps 6 none 1 NM kdM D cA ad sa [.ref (ad 0), kI a1, .ref (ad r2)] z (kQv NM kdM D cA ad Kp) := by
  unfold cal_X10_steps at h
  refine k_met (cc := cX10_steps) (own := RX10) (nL := 6) rfl rfl (Nat.le_of_ble_eq_true rfl) hj kltM (fun p e s m below meth c X hrt hlk => ?_)
  refine k_sub (lv' := [(0, .ref (ad 0)), (1, kI a1), (2, .ref (ad r2))]) [0, 1, 2] rfl ?_
  refine k_iconst X dX10_steps_0 ?_
  refine k_istore_n X dX10_steps_1 h (fun v1 => [(3, kI v1), (0, .ref (ad 0)), (1, kI a1), (2, .ref (ad r2))]) (by decide) (fun _ => rfl) (fun v1 h => ?_)
  refine k_sub (lv' := [(0, .ref (ad 0)), (1, kI a1), (2, .ref (ad r2)), (3, kI v1)]) [1, 2, 3, 0] rfl ?_
  refine h (fun v3 z4 => kAt p l e (kR 1) s m ([.ref (ad 0), kI a1, .ref (ad r2)] : List Value).toArray below meth c (MQ below (kQv NM kdM D cA ad Kp) ([.ref (ad 0), kI a1, .ref (ad r2)] : List Value).toArray s 0 0 (kA NM ad)) 6 NM kdM D cA ad 2 [(0, .ref (ad 0)), (1, kI a1), (2, .ref (ad r2)), (3, kI v3)] [] z4) (fun v3 z4 h => ?_)
  refine k_iload_n X dX10_steps_2 3 rfl ?_
  refine k_bipush X dX10_steps_3 (by decide +kernel) ?_
  refine k_icmp_ge (tgt := 28) X dX10_steps_5 (by decide) ⟨h.1, ⟨by decide, by decide⟩, h.2⟩ (fun h => ?_) (fun h => ?_)
  · refine k_iconst X dX10_steps_28 ?_
    refine k_istore_n X dX10_steps_29 h (fun v5 => [(3, kI v5), (0, .ref (ad 0)), (1, kI a1), (2, .ref (ad r2))]) (by decide) (fun _ => rfl) (fun v5 h => ?_)
    refine k_sub (lv' := [(0, .ref (ad 0)), (2, .ref (ad r2)), (3, kI v5)]) [1, 3, 0] rfl ?_
    refine h (fun v7 z8 => kAt p l e (kR 1) s m ([.ref (ad 0), kI a1, .ref (ad r2)] : List Value).toArray below meth c (MQ below (kQv NM kdM D cA ad Kp) ([.ref (ad 0), kI a1, .ref (ad r2)] : List Value).toArray s 0 0 (kA NM ad)) 6 NM kdM D cA ad 30 [(0, .ref (ad 0)), (2, .ref (ad r2)), (3, kI v7)] [] z8) (fun v7 z8 h => ?_)
    refine k_iload_n X dX10_steps_30 2 rfl ?_
    refine k_bipush X dX10_steps_31 (by decide +kernel) ?_
    refine k_icmp_ge (tgt := 134) X dX10_steps_33 (by decide) ⟨h.1, ⟨by decide, by decide⟩, h.2⟩ (fun h => ?_) (fun h => ?_)
    · exact k_vret X hrt hlk dX10_steps_134 h
    · refine k_iconst X dX10_steps_36 ?_
      refine k_istore X dX10_steps_37 h (fun v9 => [(4, kI v9), (0, .ref (ad 0)), (2, .ref (ad r2)), (3, kI v7)]) (by decide) (fun _ => rfl) (fun v9 h => ?_)
      refine k_sub (lv' := [(0, .ref (ad 0)), (2, .ref (ad r2)), (3, kI v7), (4, kI v9)]) [1, 2, 3, 0] rfl ?_
      refine h (fun v11 z12 => kAt p l e (kR 1) s m ([.ref (ad 0), kI a1, .ref (ad r2)] : List Value).toArray below meth c (MQ below (kQv NM kdM D cA ad Kp) ([.ref (ad 0), kI a1, .ref (ad r2)] : List Value).toArray s 0 0 (kA NM ad)) 6 NM kdM D cA ad 39 [(0, .ref (ad 0)), (2, .ref (ad r2)), (3, kI v7), (4, kI v11)] [] z12) (fun v11 z12 h => ?_)
      refine k_iload X dX10_steps_39 3 rfl ?_
      refine k_aload_n X dX10_steps_41 0 rfl ?_
      refine k_getR (t := 1) X fk_X10_11 (by rfl) (by decide) rfl dX10_steps_42 ?_
      refine k_iconst X dX10_steps_45 ?_
      refine k_iald X kzM_1 (Nat.le_of_ble_eq_true rfl) dX10_steps_46 ⟨⟨by decide, by decide⟩, h⟩ (fun h => ?_)
      refine k_icmp_ge (tgt := 128) X dX10_steps_47 (by decide) h (fun h => ?_) (fun h => ?_)
      · refine k_iinc X dX10_steps_128 2 rfl h (fun v13 => [(3, kI v13), (0, .ref (ad 0)), (2, .ref (ad r2)), (4, kI v11)]) (by decide) (fun _ => rfl) (fun v13 h => ?_)
        refine k_goto (tgt := 30) X dX10_steps_131 (by decide) ?_
        exact k_sub [1, 2, 0] rfl h
      · refine k_iconst X dX10_steps_50 ?_
        refine k_istore X dX10_steps_51 h (fun v14 => [(5, kI v14), (0, .ref (ad 0)), (2, .ref (ad r2)), (3, kI v7), (4, kI v11)]) (by decide) (fun _ => rfl) (fun v14 h => ?_)
        refine k_sub (lv' := [(0, .ref (ad 0)), (2, .ref (ad r2)), (3, kI v7), (4, kI v11), (5, kI v14)]) [1, 2, 3, 4, 0] rfl ?_
        refine h (fun v16 z17 => kAt p l e (kR 1) s m ([.ref (ad 0), kI a1, .ref (ad r2)] : List Value).toArray below meth c (MQ below (kQv NM kdM D cA ad Kp) ([.ref (ad 0), kI a1, .ref (ad r2)] : List Value).toArray s 0 0 (kA NM ad)) 6 NM kdM D cA ad 53 [(0, .ref (ad 0)), (2, .ref (ad r2)), (3, kI v7), (4, kI v11), (5, kI v16)] [] z17) (fun v16 z17 h => ?_)
        refine k_iload X dX10_steps_53 4 rfl ?_
        refine k_aload_n X dX10_steps_55 0 rfl ?_
        refine k_getR (t := 1) X fk_X10_11 (by rfl) (by decide) rfl dX10_steps_56 ?_
        refine k_iconst X dX10_steps_59 ?_
        refine k_iald X kzM_1 (Nat.le_of_ble_eq_true rfl) dX10_steps_60 ⟨⟨by decide, by decide⟩, h⟩ (fun h => ?_)
        refine k_icmp_ge (tgt := 122) X dX10_steps_61 (by decide) h (fun h => ?_) (fun h => ?_)
        · refine k_iinc X dX10_steps_122 3 rfl h (fun v18 => [(4, kI v18), (0, .ref (ad 0)), (2, .ref (ad r2)), (3, kI v7), (5, kI v16)]) (by decide) (fun _ => rfl) (fun v18 h => ?_)
          refine k_goto (tgt := 39) X dX10_steps_125 (by decide) ?_
          exact k_sub [1, 2, 3, 0] rfl h
        · refine k_aload_n X dX10_steps_64 1 rfl ?_
          refine k_iload X dX10_steps_65 4 rfl ?_
          refine k_aload_n X dX10_steps_67 1 rfl ?_
          refine k_iload X dX10_steps_68 3 rfl ?_
          refine k_iald X hr2 (Nat.le_of_ble_eq_true rfl) dX10_steps_70 h (fun h => ?_)
          refine k_iload_n X dX10_steps_71 2 rfl ?_
          refine k_iconst X dX10_steps_72 ?_
          refine k_isub X dX10_steps_73 ?_
          refine jn_use (fun J19 => ∀ (z20 : Hp), J19 z20 → kAt p l e (kR 1) s m ([.ref (ad 0), kI a1, .ref (ad r2)] : List Value).toArray below meth c (MQ below (kQv NM kdM D cA ad Kp) ([.ref (ad 0), kI a1, .ref (ad r2)] : List Value).toArray s 0 0 (kA NM ad)) 6 NM kdM D cA ad 116 [(0, .ref (ad 0)), (2, .ref (ad r2)), (3, kI v7), (4, kI v11), (5, kI v16)] [] z20) h ?_ (fun J19 hJ19 h => ?_)
          · intro z20 h
            refine k_iinc X dX10_steps_116 4 rfl h (fun v21 => [(5, kI v21), (0, .ref (ad 0)), (2, .ref (ad r2)), (3, kI v7), (4, kI v11)]) (by decide) (fun _ => rfl) (fun v21 h => ?_)
            refine k_goto (tgt := 53) X dX10_steps_119 (by decide) ?_
            exact k_sub [1, 2, 3, 4, 0] rfl h
          · refine k_icmp_ne (tgt := 111) X dX10_steps_74 (by decide) h (fun h => ?_) (fun h => ?_)
            · refine k_aload_n X dX10_steps_111 1 rfl ?_
              refine k_iload X dX10_steps_112 4 rfl ?_
              refine k_iald X hr2 (Nat.le_of_ble_eq_true rfl) dX10_steps_114 h (fun h => ?_)
              refine k_iast X hr2 (Nat.le_of_ble_eq_true rfl) dX10_steps_115 h (fun h => k_nameH h (fun z22 h => ?_))
              exact k_sub [0, 1, 2, 3, 4] rfl (hJ19 _ h)
            · refine k_aload_n X dX10_steps_77 0 rfl ?_
              refine k_getR (t := 7) X fk_X10_30 (by rfl) (by decide) rfl dX10_steps_78 ?_
              refine k_iload X dX10_steps_81 3 rfl ?_
              refine k_iald X kzM_7 (Nat.le_of_ble_eq_true rfl) dX10_steps_83 h (fun h => ?_)
              refine k_aload_n X dX10_steps_84 0 rfl ?_
              refine k_getR (t := 8) X fk_X10_33 (by rfl) (by decide) rfl dX10_steps_85 ?_
              refine k_iload X dX10_steps_88 3 rfl ?_
              refine k_iald X kzM_8 (Nat.le_of_ble_eq_true rfl) dX10_steps_90 h (fun h => ?_)
              refine k_ior X dX10_steps_91 ?_
              refine k_iload X dX10_steps_92 4 rfl ?_
              refine k_afterP (st := [kI v16, .ref (ad r2)]) (fun H locs ls hP hS hl => k_runS (As := [kI (ior (z17 7 v11.toNat) (z17 8 v11.toNat)), kI v16]) X lk_X10_89 yo_X10_has rfl (kR_ok (by decide) (by decide)) (ct_X10_has (kCx_j X) _ _ _ _ h) (Nat.le_of_ble_eq_true rfl) dX10_steps_94 hP hS hl) (fun v23 h => ?_)
              refine k_if_eq (tgt := 111) X dX10_steps_97 (by decide) h (fun h => ?_) (fun h => ?_)
              · refine k_aload_n X dX10_steps_111 1 rfl ?_
                refine k_iload X dX10_steps_112 4 rfl ?_
                refine k_iald X hr2 (Nat.le_of_ble_eq_true rfl) dX10_steps_114 h (fun h => ?_)
                refine k_iast X hr2 (Nat.le_of_ble_eq_true rfl) dX10_steps_115 h (fun h => k_nameH h (fun z24 h => ?_))
                exact k_sub [0, 1, 2, 3, 4] rfl (hJ19 _ h)
              · refine k_aload_n X dX10_steps_100 1 rfl ?_
                refine k_iload X dX10_steps_101 4 rfl ?_
                refine k_iald X hr2 (Nat.le_of_ble_eq_true rfl) dX10_steps_103 h (fun h => ?_)
                refine k_iload_n X dX10_steps_104 2 rfl ?_
                refine k_mmin X mw876 mw450 mw11 mw451 (kR_one (by decide)) (Nat.le_of_ble_eq_true rfl) dX10_steps_105 h (fun h => ?_)
                refine k_goto (tgt := 115) X dX10_steps_108 (by decide) ?_
                refine k_iast X hr2 (Nat.le_of_ble_eq_true rfl) dX10_steps_115 h (fun h => k_nameH h (fun z25 h => ?_))
                exact k_sub [0, 1, 2, 3, 4] rfl (hJ19 _ h)
  · refine k_aload_n X dX10_steps_8 2 rfl ?_
    refine k_iload_n X dX10_steps_9 3 rfl ?_
    refine k_iload_n X dX10_steps_10 3 rfl ?_
    refine k_iload_n X dX10_steps_11 1 rfl ?_
    refine jn_use (fun J26 => ∀ (z27 : Hp), J26 z27 → kAt p l e (kR 1) s m ([.ref (ad 0), kI a1, .ref (ad r2)] : List Value).toArray below meth c (MQ below (kQv NM kdM D cA ad Kp) ([.ref (ad 0), kI a1, .ref (ad r2)] : List Value).toArray s 0 0 (kA NM ad)) 6 NM kdM D cA ad 22 [(0, .ref (ad 0)), (1, kI a1), (2, .ref (ad r2)), (3, kI v3)] [] z27) h ?_ (fun J26 hJ26 h => ?_)
    · intro z27 h
      refine k_iinc X dX10_steps_22 3 rfl h (fun v28 => [(3, kI v28), (0, .ref (ad 0)), (1, kI a1), (2, .ref (ad r2))]) (by decide) (fun _ => rfl) (fun v28 h => ?_)
      refine k_goto (tgt := 2) X dX10_steps_25 (by decide) ?_
      exact k_sub [1, 2, 3, 0] rfl h
    · refine k_icmp_ne (tgt := 19) X dX10_steps_12 (by decide) h (fun h => ?_) (fun h => ?_)
      · refine k_bipush X dX10_steps_19 (by decide +kernel) ?_
        refine k_iast X hr2 (Nat.le_of_ble_eq_true rfl) dX10_steps_21 h (fun h => k_nameH h (fun z29 h => ?_))
        exact k_sub [0, 1, 2, 3] rfl (hJ26 _ h)
      · refine k_iconst X dX10_steps_15 ?_
        refine k_goto (tgt := 21) X dX10_steps_16 (by decide) ?_
        refine k_iast X hr2 (Nat.le_of_ble_eq_true rfl) dX10_steps_21 h (fun h => k_nameH h (fun z30 h => ?_))
        exact k_sub [0, 1, 2, 3] rfl (hJ26 _ h)
set_option maxHeartbeats 4000000 in
set_option maxRecDepth 100000 in
theorem ct_X10_meets {l : Launch} {D : va_G} {cA : Nat → ClassId} {ad sa : Nat → Nat} (hj : kInj NM ad) (a1 : Int) (a2 : Int) (z : Hp) (Kp : Int → Hp → Prop) (h : cal_X10_meets a1 a2 z Kp) : kMet l yX10_meets cX10_meets 6 (some .boolean) 2 NM kdM D cA ad sa [.ref (ad 0), kI a1, kI a2] z (kQi NM kdM D cA ad Kp) := by
  unfold cal_X10_meets at h
  refine k_met (cc := cX10_meets) (own := RX10) (nL := 6) rfl rfl (Nat.le_of_ble_eq_true rfl) hj kltM (fun p e s m below meth c X hrt hlk => ?_)
  refine k_sub (lv' := [(0, .ref (ad 0)), (1, kI a1), (2, kI a2)]) [0, 1, 2] rfl ?_
  refine k_aload_n X dX10_meets_0 0 rfl ?_
  refine k_aload_n X dX10_meets_1 0 rfl ?_
  refine k_getR (t := 6) X fk_X10_27 (by rfl) (by decide) rfl dX10_meets_2 ?_
  refine k_iload_n X dX10_meets_5 1 rfl ?_
  refine k_iald X kzM_6 (Nat.le_of_ble_eq_true rfl) dX10_meets_6 h (fun h => ?_)
  refine k_aload_n X dX10_meets_7 0 rfl ?_
  refine k_getR (t := 13) X fk_X10_48 (by rfl) (by decide) rfl dX10_meets_8 ?_
  refine k_afterV (st := []) (fun H locs ls hP hS hl => k_runV (As := [kI (z 6 a1.toNat), .ref (ad 13)]) X lk_X10_261 rfl yo_X10_steps rfl (kR_ok (by decide) (by decide)) (ct_X10_steps (kCx_j X) _ 13 kzM_13 _ _ h) (by rfl) rfl (Nat.le_of_ble_eq_true rfl) dX10_meets_11 hP hS hl) (fun z1 h => ?_)
  refine k_aload_n X dX10_meets_14 0 rfl ?_
  refine k_aload_n X dX10_meets_15 0 rfl ?_
  refine k_getR (t := 6) X fk_X10_27 (by rfl) (by decide) rfl dX10_meets_16 ?_
  refine k_iload_n X dX10_meets_19 2 rfl ?_
  refine k_iald X kzM_6 (Nat.le_of_ble_eq_true rfl) dX10_meets_20 h (fun h => ?_)
  refine k_aload_n X dX10_meets_21 0 rfl ?_
  refine k_getR (t := 14) X fk_X10_51 (by rfl) (by decide) rfl dX10_meets_22 ?_
  refine k_afterV (st := []) (fun H locs ls hP hS hl => k_runV (As := [kI (z1 6 a2.toNat), .ref (ad 14)]) X lk_X10_261 rfl yo_X10_steps rfl (kR_ok (by decide) (by decide)) (ct_X10_steps (kCx_j X) _ 14 kzM_14 _ _ h) (by rfl) rfl (Nat.le_of_ble_eq_true rfl) dX10_meets_25 hP hS hl) (fun z2 h => ?_)
  refine k_aload_n X dX10_meets_28 0 rfl ?_
  refine k_bipush X dX10_meets_29 (by decide +kernel) ?_
  refine k_putI X fp_X10_265 (by rfl) rfl dX10_meets_31 (k_nameH h (fun z3 h => ?_))
  refine k_iconst X dX10_meets_34 ?_
  refine k_istore_n X dX10_meets_35 h (fun v4 => [(3, kI v4), (0, .ref (ad 0)), (1, kI a1), (2, kI a2)]) (by decide) (fun _ => rfl) (fun v4 h => ?_)
  refine k_sub (lv' := [(0, .ref (ad 0)), (3, kI v4)]) [1, 0] rfl ?_
  refine h (fun v6 z7 => kAt p l e (kR 2) s m ([.ref (ad 0), kI a1, kI a2] : List Value).toArray below meth c (MQ below (kQi NM kdM D cA ad Kp) ([.ref (ad 0), kI a1, kI a2] : List Value).toArray s 0 0 (kA NM ad)) 6 NM kdM D cA ad 36 [(0, .ref (ad 0)), (3, kI v6)] [] z7) (fun v6 z7 h => ?_)
  refine k_iload_n X dX10_meets_36 1 rfl ?_
  refine k_aload_n X dX10_meets_37 0 rfl ?_
  refine k_getR (t := 1) X fk_X10_11 (by rfl) (by decide) rfl dX10_meets_38 ?_
  refine k_iconst X dX10_meets_41 ?_
  refine k_iald X kzM_1 (Nat.le_of_ble_eq_true rfl) dX10_meets_42 ⟨⟨by decide, by decide⟩, h⟩ (fun h => ?_)
  refine k_icmp_ge (tgt := 188) X dX10_meets_43 (by decide) h (fun h => ?_) (fun h => ?_)
  · refine k_aload_n X dX10_meets_188 0 rfl ?_
    refine k_getI X fk_X10_265 (by rfl) rfl dX10_meets_189 ?_
    refine k_if_lt (tgt := 199) X dX10_meets_192 (by decide) h (fun h => ?_) (fun h => ?_)
    · refine k_iconst X dX10_meets_199 ?_
      exact k_zret X hrt hlk dX10_meets_200 ⟨Or.inl rfl, h⟩
    · refine k_iconst X dX10_meets_195 ?_
      refine k_goto (tgt := 200) X dX10_meets_196 (by decide) ?_
      exact k_zret X hrt hlk dX10_meets_200 ⟨Or.inr rfl, h⟩
  · refine k_aload_n X dX10_meets_46 0 rfl ?_
    refine k_getR (t := 13) X fk_X10_48 (by rfl) (by decide) rfl dX10_meets_47 ?_
    refine k_iload_n X dX10_meets_50 1 rfl ?_
    refine k_iald X kzM_13 (Nat.le_of_ble_eq_true rfl) dX10_meets_51 h (fun h => ?_)
    refine k_bipush X dX10_meets_52 (by decide +kernel) ?_
    refine jn_use (fun J8 => ∀ (z9 : Hp), J8 z9 → kAt p l e (kR 2) s m ([.ref (ad 0), kI a1, kI a2] : List Value).toArray below meth c (MQ below (kQi NM kdM D cA ad Kp) ([.ref (ad 0), kI a1, kI a2] : List Value).toArray s 0 0 (kA NM ad)) 6 NM kdM D cA ad 182 [(0, .ref (ad 0)), (3, kI v6)] [] z9) h ?_ (fun J8 hJ8 h => ?_)
    · intro z9 h
      refine k_iinc X dX10_meets_182 1 rfl h (fun v10 => [(3, kI v10), (0, .ref (ad 0))]) (by decide) (fun _ => rfl) (fun v10 h => ?_)
      refine k_goto (tgt := 36) X dX10_meets_185 (by decide) ?_
      exact k_sub [1, 0] rfl h
    · refine k_icmp_eq (tgt := 182) X dX10_meets_54 (by decide) ⟨h.1, ⟨by decide, by decide⟩, h.2⟩ (fun h => ?_) (fun h => ?_)
      · exact k_sub [0, 1] rfl (hJ8 _ h)
      · refine k_aload_n X dX10_meets_57 0 rfl ?_
        refine k_getR (t := 14) X fk_X10_51 (by rfl) (by decide) rfl dX10_meets_58 ?_
        refine k_iload_n X dX10_meets_61 1 rfl ?_
        refine k_iald X kzM_14 (Nat.le_of_ble_eq_true rfl) dX10_meets_62 h (fun h => ?_)
        refine k_bipush X dX10_meets_63 (by decide +kernel) ?_
        refine k_icmp_ne (tgt := 71) X dX10_meets_65 (by decide) ⟨h.1, ⟨by decide, by decide⟩, h.2⟩ (fun h => ?_) (fun h => ?_)
        · refine k_aload_n X dX10_meets_71 0 rfl ?_
          refine k_getI X fk_X10_265 (by rfl) rfl dX10_meets_72 ?_
          refine k_istore X dX10_meets_75 h (fun v11 => [(4, kI v11), (0, .ref (ad 0)), (3, kI v6)]) (by decide) (fun _ => rfl) (fun v11 h => ?_)
          refine k_iload X dX10_meets_77 0 rfl ?_
          refine jn_use (fun J13 => ∀ (v12 : Int), J13 v12 → kAt p l e (kR 2) s m ([.ref (ad 0), kI a1, kI a2] : List Value).toArray below meth c (MQ below (kQi NM kdM D cA ad Kp) ([.ref (ad 0), kI a1, kI a2] : List Value).toArray s 0 0 (kA NM ad)) 6 NM kdM D cA ad 167 [(0, .ref (ad 0)), (3, kI v6), (4, kI v11), (5, kI v12)] [] z7) h ?_ (fun J13 hJ13 h => ?_)
          · intro v12 h
            refine k_aload_n X dX10_meets_167 0 rfl ?_
            refine k_iload X dX10_meets_168 3 rfl ?_
            refine k_if_eq (tgt := 177) X dX10_meets_170 (by decide) h (fun h => ?_) (fun h => ?_)
            · refine k_iload X dX10_meets_177 2 rfl ?_
              refine k_putI X fp_X10_265 (by rfl) rfl dX10_meets_179 (k_nameH h (fun z14 h => ?_))
              exact k_sub [0, 1] rfl (hJ8 _ h)
            · refine k_iload_n X dX10_meets_173 1 rfl ?_
              refine k_goto (tgt := 179) X dX10_meets_174 (by decide) ?_
              refine k_putI X fp_X10_265 (by rfl) rfl dX10_meets_179 (k_nameH h (fun z15 h => ?_))
              exact k_sub [0, 1] rfl (hJ8 _ h)
          · refine jn_use (fun J16 => J16 → kAt p l e (kR 2) s m ([.ref (ad 0), kI a1, kI a2] : List Value).toArray below meth c (MQ below (kQi NM kdM D cA ad Kp) ([.ref (ad 0), kI a1, kI a2] : List Value).toArray s 0 0 (kA NM ad)) 6 NM kdM D cA ad 160 [(0, .ref (ad 0)), (3, kI v6), (4, kI v11)] [] z7) h ?_ (fun J16 hJ16 h => ?_)
            · intro h
              refine k_iconst X dX10_meets_160 ?_
              refine k_goto (tgt := 165) X dX10_meets_161 (by decide) ?_
              refine k_istore X dX10_meets_165 h (fun v17 => [(5, kI v17), (0, .ref (ad 0)), (3, kI v6), (4, kI v11)]) (by decide) (fun _ => rfl) (fun v17 h => ?_)
              exact k_sub [1, 2, 3, 0] rfl (hJ13 _ h)
            · refine k_if_lt (tgt := 160) X dX10_meets_79 (by decide) h (fun h => ?_) (fun h => ?_)
              · exact k_sub [1, 2, 0] rfl (hJ16 h)
              · refine k_aload_n X dX10_meets_82 1 rfl ?_
                refine k_getR (t := 13) X fk_X10_48 (by rfl) (by decide) rfl dX10_meets_83 ?_
                refine k_iload_n X dX10_meets_86 2 rfl ?_
                refine k_iald X kzM_13 (Nat.le_of_ble_eq_true rfl) dX10_meets_87 h (fun h => ?_)
                refine k_aload_n X dX10_meets_88 1 rfl ?_
                refine k_getR (t := 14) X fk_X10_51 (by rfl) (by decide) rfl dX10_meets_89 ?_
                refine k_iload_n X dX10_meets_92 2 rfl ?_
                refine k_iald X kzM_14 (Nat.le_of_ble_eq_true rfl) dX10_meets_93 h (fun h => ?_)
                refine k_iadd X dX10_meets_94 ?_
                refine k_aload_n X dX10_meets_95 1 rfl ?_
                refine k_getR (t := 13) X fk_X10_48 (by rfl) (by decide) rfl dX10_meets_96 ?_
                refine k_iload X dX10_meets_99 0 rfl ?_
                refine k_iald X kzM_13 (Nat.le_of_ble_eq_true rfl) dX10_meets_101 h (fun h => ?_)
                refine k_aload_n X dX10_meets_102 1 rfl ?_
                refine k_getR (t := 14) X fk_X10_51 (by rfl) (by decide) rfl dX10_meets_103 ?_
                refine k_iload X dX10_meets_106 0 rfl ?_
                refine k_iald X kzM_14 (Nat.le_of_ble_eq_true rfl) dX10_meets_108 h (fun h => ?_)
                refine k_iadd X dX10_meets_109 ?_
                refine k_icmp_lt (tgt := 160) X dX10_meets_110 (by decide) h (fun h => ?_) (fun h => ?_)
                · exact k_sub [1, 2, 0] rfl (hJ16 h)
                · refine k_aload_n X dX10_meets_113 1 rfl ?_
                  refine k_getR (t := 13) X fk_X10_48 (by rfl) (by decide) rfl dX10_meets_114 ?_
                  refine k_iload_n X dX10_meets_117 2 rfl ?_
                  refine k_iald X kzM_13 (Nat.le_of_ble_eq_true rfl) dX10_meets_118 h (fun h => ?_)
                  refine k_aload_n X dX10_meets_119 1 rfl ?_
                  refine k_getR (t := 14) X fk_X10_51 (by rfl) (by decide) rfl dX10_meets_120 ?_
                  refine k_iload_n X dX10_meets_123 2 rfl ?_
                  refine k_iald X kzM_14 (Nat.le_of_ble_eq_true rfl) dX10_meets_124 h (fun h => ?_)
                  refine k_iadd X dX10_meets_125 ?_
                  refine k_aload_n X dX10_meets_126 1 rfl ?_
                  refine k_getR (t := 13) X fk_X10_48 (by rfl) (by decide) rfl dX10_meets_127 ?_
                  refine k_iload X dX10_meets_130 0 rfl ?_
                  refine k_iald X kzM_13 (Nat.le_of_ble_eq_true rfl) dX10_meets_132 h (fun h => ?_)
                  refine k_aload_n X dX10_meets_133 1 rfl ?_
                  refine k_getR (t := 14) X fk_X10_51 (by rfl) (by decide) rfl dX10_meets_134 ?_
                  refine k_iload X dX10_meets_137 0 rfl ?_
                  refine k_iald X kzM_14 (Nat.le_of_ble_eq_true rfl) dX10_meets_139 h (fun h => ?_)
                  refine k_iadd X dX10_meets_140 ?_
                  refine jn_use (fun J18 => J18 → kAt p l e (kR 2) s m ([.ref (ad 0), kI a1, kI a2] : List Value).toArray below meth c (MQ below (kQi NM kdM D cA ad Kp) ([.ref (ad 0), kI a1, kI a2] : List Value).toArray s 0 0 (kA NM ad)) 6 NM kdM D cA ad 164 [(0, .ref (ad 0)), (3, kI v6), (4, kI v11)] [] z7) h ?_ (fun J18 hJ18 h => ?_)
                  · intro h
                    refine k_iconst X dX10_meets_164 ?_
                    refine k_istore X dX10_meets_165 h (fun v19 => [(5, kI v19), (0, .ref (ad 0)), (3, kI v6), (4, kI v11)]) (by decide) (fun _ => rfl) (fun v19 h => ?_)
                    exact k_sub [1, 2, 3, 0] rfl (hJ13 _ h)
                  · refine k_icmp_ne (tgt := 164) X dX10_meets_141 (by decide) h (fun h => ?_) (fun h => ?_)
                    · exact k_sub [1, 2, 0] rfl (hJ18 h)
                    · refine k_aload_n X dX10_meets_144 1 rfl ?_
                      refine k_getR (t := 13) X fk_X10_48 (by rfl) (by decide) rfl dX10_meets_145 ?_
                      refine k_iload_n X dX10_meets_148 2 rfl ?_
                      refine k_iald X kzM_13 (Nat.le_of_ble_eq_true rfl) dX10_meets_149 h (fun h => ?_)
                      refine k_aload_n X dX10_meets_150 1 rfl ?_
                      refine k_getR (t := 13) X fk_X10_48 (by rfl) (by decide) rfl dX10_meets_151 ?_
                      refine k_iload X dX10_meets_154 0 rfl ?_
                      refine k_iald X kzM_13 (Nat.le_of_ble_eq_true rfl) dX10_meets_156 h (fun h => ?_)
                      refine k_icmp_ge (tgt := 164) X dX10_meets_157 (by decide) h (fun h => ?_) (fun h => ?_)
                      · exact k_sub [1, 2, 0] rfl (hJ18 h)
                      · exact k_sub [1, 2, 0] rfl (hJ16 h)
        · refine k_goto (tgt := 182) X dX10_meets_68 (by decide) ?_
          exact k_sub [0, 1] rfl (hJ8 _ h)
set_option maxHeartbeats 4000000 in
set_option maxRecDepth 100000 in
theorem ct_X10_common {l : Launch} {D : va_G} {cA : Nat → ClassId} {ad sa : Nat → Nat} (hj : kInj NM ad) (a1 : Int) (a2 : Int) (z : Hp) (Kp : Int → Hp → Prop) (h : cal_X10_common a1 a2 z Kp) : kMet l yX10_common cX10_common 3 (some .int) 3 NM kdM D cA ad sa [.ref (ad 0), kI a1, kI a2] z (kQi NM kdM D cA ad Kp) := by
  unfold cal_X10_common at h
  refine k_met (cc := cX10_common) (own := RX10) (nL := 3) rfl rfl (Nat.le_of_ble_eq_true rfl) hj kltM (fun p e s m below meth c X hrt hlk => ?_)
  refine k_sub (lv' := [(0, .ref (ad 0)), (1, kI a1), (2, kI a2)]) [0, 1, 2] rfl ?_
  refine k_aload_n X dX10_common_0 0 rfl ?_
  refine k_iload_n X dX10_common_1 1 rfl ?_
  refine k_iload_n X dX10_common_2 2 rfl ?_
  refine k_afterP (st := []) (fun H locs ls hP hS hl => k_runV (As := [kI a1, kI a2]) X lk_X10_268 rfl yo_X10_areTwo rfl (kR_ok (by decide) (by decide)) (ct_X10_areTwo (kCx_j X) _ _ _ _ h) (by rfl) rfl (Nat.le_of_ble_eq_true rfl) dX10_common_3 hP hS hl) (fun v1 h => ?_)
  refine k_if_ne (tgt := 11) X dX10_common_6 (by decide) h (fun h => ?_) (fun h => ?_)
  · refine k_aload_n X dX10_common_11 0 rfl ?_
    refine k_iload_n X dX10_common_12 1 rfl ?_
    refine k_iload_n X dX10_common_13 2 rfl ?_
    refine k_afterI (st := []) (fun H locs ls hP hS hl => k_runV (As := [kI a1, kI a2]) X lk_X10_271 rfl yo_X10_meets rfl (kR_ok (by decide) (by decide)) (ct_X10_meets (kCx_j X) _ _ _ _ h) (by rfl) rfl (Nat.le_of_ble_eq_true rfl) dX10_common_14 hP hS hl) (fun v3 z2 h => ?_)
    refine k_pop X dX10_common_17 rfl ?_
    refine k_aload_n X dX10_common_18 0 rfl ?_
    refine k_getI X fk_X10_265 (by rfl) rfl dX10_common_19 ?_
    exact k_iret X hrt hlk dX10_common_22 h
  · refine k_iconst X dX10_common_9 ?_
    exact k_iret X hrt hlk dX10_common_10 h
set_option maxHeartbeats 4000000 in
set_option maxRecDepth 100000 in
theorem ct_X10_copies {l : Launch} {D : va_G} {cA : Nat → ClassId} {ad sa : Nat → Nat} (hj : kInj NM ad) (r1 : Nat) (hr1 : kdM r1 = (1, 608, 0)) (r2 : Nat) (hr2 : kdM r2 = (1, 608, 0)) (z : Hp) (Kp : Hp → Prop) (h : cal_X10_copies r1 r2 z Kp) : kMet l yX10_copies cX10_copies 3 none 0 NM kdM D cA ad sa [.ref (ad r1), .ref (ad r2)] z (kQv NM kdM D cA ad Kp) := by
  unfold cal_X10_copies at h
  refine k_met (cc := cX10_copies) (own := RX10) (nL := 3) rfl rfl (Nat.le_of_ble_eq_true rfl) hj kltM (fun p e s m below meth c X hrt hlk => ?_)
  refine k_sub (lv' := [(0, .ref (ad r1)), (1, .ref (ad r2))]) [0, 1] rfl ?_
  refine k_iconst X dX10_copies_0 ?_
  refine k_istore_n X dX10_copies_1 h (fun v1 => [(2, kI v1), (0, .ref (ad r1)), (1, .ref (ad r2))]) (by decide) (fun _ => rfl) (fun v1 h => ?_)
  refine k_sub (lv' := [(0, .ref (ad r1)), (1, .ref (ad r2)), (2, kI v1)]) [1, 2, 0] rfl ?_
  refine h (fun v3 z4 => kAt p l e (kR 0) s m ([.ref (ad r1), .ref (ad r2)] : List Value).toArray below meth c (MQ below (kQv NM kdM D cA ad Kp) ([.ref (ad r1), .ref (ad r2)] : List Value).toArray s 0 0 (kA NM ad)) 3 NM kdM D cA ad 2 [(0, .ref (ad r1)), (1, .ref (ad r2)), (2, kI v3)] [] z4) (fun v3 z4 h => ?_)
  refine k_iload_n X dX10_copies_2 2 rfl ?_
  refine k_aload_n X dX10_copies_3 0 rfl ?_
  refine k_alen X hr1 (by decide) dX10_copies_4 ?_
  refine k_icmp_ge (tgt := 20) X dX10_copies_5 (by decide) ⟨h.1, ⟨by decide, by decide⟩, h.2⟩ (fun h => ?_) (fun h => ?_)
  · exact k_vret X hrt hlk dX10_copies_20 h
  · refine k_aload_n X dX10_copies_8 1 rfl ?_
    refine k_iload_n X dX10_copies_9 2 rfl ?_
    refine k_aload_n X dX10_copies_10 0 rfl ?_
    refine k_iload_n X dX10_copies_11 2 rfl ?_
    refine k_iald X hr1 (Nat.le_of_ble_eq_true rfl) dX10_copies_12 h (fun h => ?_)
    refine k_iast X hr2 (Nat.le_of_ble_eq_true rfl) dX10_copies_13 h (fun h => k_nameH h (fun z5 h => ?_))
    refine k_iinc X dX10_copies_14 2 rfl h (fun v6 => [(2, kI v6), (0, .ref (ad r1)), (1, .ref (ad r2))]) (by decide) (fun _ => rfl) (fun v6 h => ?_)
    refine k_goto (tgt := 2) X dX10_copies_17 (by decide) ?_
    exact k_sub [1, 2, 0] rfl h
set_option maxHeartbeats 4000000 in
set_option maxRecDepth 100000 in
theorem ct_X10_culprit {l : Launch} {D : va_G} {cA : Nat → ClassId} {ad sa : Nat → Nat} (hj : kInj NM ad) (a1 : Int) (z : Hp) (Kp : Int → Hp → Prop) (h : cal_X10_culprit a1 z Kp) : kMet l yX10_culprit cX10_culprit 5 (some .int) 5 NM kdM D cA ad sa [.ref (ad 0), kI a1] z (kQi NM kdM D cA ad Kp) := by
  unfold cal_X10_culprit at h
  refine k_met (cc := cX10_culprit) (own := RX10) (nL := 5) rfl rfl (Nat.le_of_ble_eq_true rfl) hj kltM (fun p e s m below meth c X hrt hlk => ?_)
  refine k_sub (lv' := [(0, .ref (ad 0)), (1, kI a1)]) [0, 1] rfl ?_
  refine k_iload_n X dX10_culprit_0 1 rfl ?_
  refine k_iconst X dX10_culprit_1 ?_
  refine k_icmp_ge (tgt := 7) X dX10_culprit_2 (by decide) ⟨h.1, ⟨by decide, by decide⟩, h.2⟩ (fun h => ?_) (fun h => ?_)
  · refine k_aload_n X dX10_culprit_7 0 rfl ?_
    refine k_getI X fk_X10_96 (by rfl) rfl dX10_culprit_8 ?_
    refine k_if_ne (tgt := 17) X dX10_culprit_11 (by decide) h (fun h => ?_) (fun h => ?_)
    · refine k_iconst X dX10_culprit_17 ?_
      refine k_istore_n X dX10_culprit_18 h (fun v1 => [(2, kI v1), (0, .ref (ad 0)), (1, kI a1)]) (by decide) (fun _ => rfl) (fun v1 h => ?_)
      refine k_iconst X dX10_culprit_19 ?_
      refine k_istore_n X dX10_culprit_20 h (fun v2 => [(3, kI v2), (2, kI v1), (0, .ref (ad 0)), (1, kI a1)]) (by decide) (fun _ => rfl) (fun v2 h => ?_)
      refine k_iconst X dX10_culprit_21 ?_
      refine k_istore X dX10_culprit_22 h (fun v3 => [(4, kI v3), (3, kI v2), (2, kI v1), (0, .ref (ad 0)), (1, kI a1)]) (by decide) (fun _ => rfl) (fun v3 h => ?_)
      refine k_sub (lv' := [(0, .ref (ad 0)), (1, kI a1), (2, kI v1), (3, kI v2), (4, kI v3)]) [3, 4, 2, 1, 0] rfl ?_
      refine h (fun v5 v6 v7 z8 => kAt p l e (kR 5) s m ([.ref (ad 0), kI a1] : List Value).toArray below meth c (MQ below (kQi NM kdM D cA ad Kp) ([.ref (ad 0), kI a1] : List Value).toArray s 0 0 (kA NM ad)) 5 NM kdM D cA ad 24 [(0, .ref (ad 0)), (1, kI a1), (2, kI v5), (3, kI v6), (4, kI v7)] [] z8) (fun v5 v6 v7 z8 h => ?_)
      refine k_iload X dX10_culprit_24 4 rfl ?_
      refine k_aload_n X dX10_culprit_26 0 rfl ?_
      refine k_getR (t := 1) X fk_X10_11 (by rfl) (by decide) rfl dX10_culprit_27 ?_
      refine k_iconst X dX10_culprit_30 ?_
      refine k_iald X kzM_1 (Nat.le_of_ble_eq_true rfl) dX10_culprit_31 ⟨⟨by decide, by decide⟩, h⟩ (fun h => ?_)
      refine k_icmp_ge (tgt := 117) X dX10_culprit_32 (by decide) h (fun h => ?_) (fun h => ?_)
      · refine k_aload_n X dX10_culprit_117 0 rfl ?_
        refine k_afterV (st := []) (fun H locs ls hP hS hl => k_runV (As := []) X lk_X10_69 rfl yo_X10_works rfl (kR_ok (by decide) (by decide)) (ct_X10_works (kCx_j X)  _ _ h) (by rfl) rfl (Nat.le_of_ble_eq_true rfl) dX10_culprit_118 hP hS hl) (fun z9 h => ?_)
        refine k_iload_n X dX10_culprit_121 1 rfl ?_
        refine k_if_ge (tgt := 129) X dX10_culprit_122 (by decide) h (fun h => ?_) (fun h => ?_)
        · refine k_iload_n X dX10_culprit_129 3 rfl ?_
          exact k_iret X hrt hlk dX10_culprit_130 h
        · refine k_iload_n X dX10_culprit_125 2 rfl ?_
          refine k_goto (tgt := 130) X dX10_culprit_126 (by decide) ?_
          exact k_iret X hrt hlk dX10_culprit_130 h
      · refine k_aload_n X dX10_culprit_35 0 rfl ?_
        refine k_iload X dX10_culprit_36 4 rfl ?_
        refine k_iconst X dX10_culprit_38 ?_
        refine k_afterP (st := []) (fun H locs ls hP hS hl => k_runV (As := [kI v7, kI 5]) X lk_X10_76 rfl yo_X10_told rfl (kR_ok (by decide) (by decide)) (ct_X10_told (kCx_j X) _ _ _ _ h) (by rfl) rfl (Nat.le_of_ble_eq_true rfl) dX10_culprit_39 hP hS hl) (fun v10 h => ?_)
        refine jn_use (fun J13 => ∀ (v11 : Int) (v12 : Int) (z14 : Hp), J13 v11 v12 z14 → kAt p l e (kR 5) s m ([.ref (ad 0), kI a1] : List Value).toArray below meth c (MQ below (kQi NM kdM D cA ad Kp) ([.ref (ad 0), kI a1] : List Value).toArray s 0 0 (kA NM ad)) 5 NM kdM D cA ad 111 [(0, .ref (ad 0)), (1, kI a1), (2, kI v11), (3, kI v12), (4, kI v7)] [] z14) h ?_ (fun J13 hJ13 h => ?_)
        · intro v11 v12 z14 h
          refine k_iinc X dX10_culprit_111 4 rfl h (fun v15 => [(4, kI v15), (0, .ref (ad 0)), (1, kI a1), (2, kI v11), (3, kI v12)]) (by decide) (fun _ => rfl) (fun v15 h => ?_)
          refine k_goto (tgt := 24) X dX10_culprit_114 (by decide) ?_
          exact k_sub [1, 2, 3, 4, 0] rfl h
        · refine k_if_ne (tgt := 48) X dX10_culprit_42 (by decide) h (fun h => ?_) (fun h => ?_)
          · refine k_aload_n X dX10_culprit_48 0 rfl ?_
            refine k_getR (t := 1) X fk_X10_11 (by rfl) (by decide) rfl dX10_culprit_49 ?_
            refine k_sipush X dX10_culprit_52 (by decide +kernel) ?_
            refine k_bipush X dX10_culprit_55 (by decide +kernel) ?_
            refine k_iload X dX10_culprit_57 4 rfl ?_
            refine k_imul X dX10_culprit_59 ?_
            refine k_iadd X dX10_culprit_60 ?_
            refine k_iconst X dX10_culprit_61 ?_
            refine k_iadd X dX10_culprit_62 ?_
            refine k_iconst X dX10_culprit_63 ?_
            refine k_iast X kzM_1 (Nat.le_of_ble_eq_true rfl) dX10_culprit_64 h (fun h => k_nameH h (fun z16 h => ?_))
            refine k_aload_n X dX10_culprit_65 0 rfl ?_
            refine k_afterV (st := []) (fun H locs ls hP hS hl => k_runV (As := []) X lk_X10_69 rfl yo_X10_works rfl (kR_ok (by decide) (by decide)) (ct_X10_works (kCx_j X)  _ _ h) (by rfl) rfl (Nat.le_of_ble_eq_true rfl) dX10_culprit_66 hP hS hl) (fun z17 h => ?_)
            refine k_aload_n X dX10_culprit_69 0 rfl ?_
            refine k_getR (t := 1) X fk_X10_11 (by rfl) (by decide) rfl dX10_culprit_70 ?_
            refine k_sipush X dX10_culprit_73 (by decide +kernel) ?_
            refine k_bipush X dX10_culprit_76 (by decide +kernel) ?_
            refine k_iload X dX10_culprit_78 4 rfl ?_
            refine k_imul X dX10_culprit_80 ?_
            refine k_iadd X dX10_culprit_81 ?_
            refine k_iconst X dX10_culprit_82 ?_
            refine k_iadd X dX10_culprit_83 ?_
            refine k_iconst X dX10_culprit_84 ?_
            refine k_iast X kzM_1 (Nat.le_of_ble_eq_true rfl) dX10_culprit_85 h (fun h => k_nameH h (fun z18 h => ?_))
            refine k_aload_n X dX10_culprit_86 0 rfl ?_
            refine k_getI X fk_X10_96 (by rfl) rfl dX10_culprit_87 ?_
            refine k_if_eq (tgt := 96) X dX10_culprit_90 (by decide) h (fun h => ?_) (fun h => ?_)
            · refine k_iload_n X dX10_culprit_96 2 rfl ?_
              refine k_iload_n X dX10_culprit_97 1 rfl ?_
              refine jn_use (fun J20 => ∀ (v19 : Int), J20 v19 → kAt p l e (kR 5) s m ([.ref (ad 0), kI a1] : List Value).toArray below meth c (MQ below (kQi NM kdM D cA ad Kp) ([.ref (ad 0), kI a1] : List Value).toArray s 0 0 (kA NM ad)) 5 NM kdM D cA ad 108 [(0, .ref (ad 0)), (1, kI a1), (2, kI v5), (3, kI v19), (4, kI v7)] [] z18) h ?_ (fun J20 hJ20 h => ?_)
              · intro v19 h
                refine k_iinc X dX10_culprit_108 2 rfl h (fun v21 => [(2, kI v21), (0, .ref (ad 0)), (1, kI a1), (3, kI v19), (4, kI v7)]) (by decide) (fun _ => rfl) (fun v21 h => ?_)
                exact k_sub [1, 2, 0, 3, 4] rfl (hJ13 _ _ _ h)
              · refine k_icmp_ne (tgt := 106) X dX10_culprit_98 (by decide) h (fun h => ?_) (fun h => ?_)
                · refine k_iload_n X dX10_culprit_106 3 rfl ?_
                  refine k_istore_n X dX10_culprit_107 h (fun v22 => [(3, kI v22), (0, .ref (ad 0)), (1, kI a1), (2, kI v5), (4, kI v7)]) (by decide) (fun _ => rfl) (fun v22 h => ?_)
                  exact k_sub [1, 2, 3, 0, 4] rfl (hJ20 _ h)
                · refine k_iload X dX10_culprit_101 4 rfl ?_
                  refine k_goto (tgt := 107) X dX10_culprit_103 (by decide) ?_
                  refine k_istore_n X dX10_culprit_107 h (fun v23 => [(3, kI v23), (0, .ref (ad 0)), (1, kI a1), (2, kI v5), (4, kI v7)]) (by decide) (fun _ => rfl) (fun v23 h => ?_)
                  exact k_sub [1, 2, 3, 0, 4] rfl (hJ20 _ h)
            · refine k_goto (tgt := 111) X dX10_culprit_93 (by decide) ?_
              exact k_sub [0, 1, 2, 3, 4] rfl (hJ13 _ _ _ h)
          · refine k_goto (tgt := 111) X dX10_culprit_45 (by decide) ?_
            exact k_sub [0, 1, 2, 3, 4] rfl (hJ13 _ _ _ h)
    · refine k_bipush X dX10_culprit_14 (by decide +kernel) ?_
      exact k_iret X hrt hlk dX10_culprit_16 h
  · refine k_iconst X dX10_culprit_5 ?_
    exact k_iret X hrt hlk dX10_culprit_6 h
set_option maxHeartbeats 4000000 in
set_option maxRecDepth 100000 in
theorem ct_X10_descendants {l : Launch} {D : va_G} {cA : Nat → ClassId} {ad sa : Nat → Nat} (hj : kInj NM ad) (a1 : Int) (z : Hp) (Kp : Int → Prop) (h : cal_X10_descendants a1 z Kp) : kMet l yX10_descendants cX10_descendants 4 (some .long) 2 NM kdM D cA ad sa [.ref (ad 0), kI a1] z (kQl NM kdM D cA ad (fun v z1 => z1 = z ∧ Kp v)) := by
  unfold cal_X10_descendants at h
  refine k_met (cc := cX10_descendants) (own := RX10) (nL := 4) rfl rfl (Nat.le_of_ble_eq_true rfl) hj kltM (fun p e s m below meth c X hrt hlk => ?_)
  refine k_sub (lv' := [(0, .ref (ad 0)), (1, kI a1)]) [0, 1] rfl ?_
  refine k_aload_n X dX10_descendants_0 0 rfl ?_
  refine k_iload_n X dX10_descendants_1 1 rfl ?_
  refine k_afterP (st := []) (fun H locs ls hP hS hl => k_runV (As := [kI a1]) X lk_X10_170 rfl yo_X10_isPerson rfl (kR_ok (by decide) (by decide)) (ct_X10_isPerson (kCx_j X) _ _ _ h) (by rfl) rfl (Nat.le_of_ble_eq_true rfl) dX10_descendants_2 hP hS hl) (fun v1 h => ?_)
  refine k_if_ne (tgt := 12) X dX10_descendants_5 (by decide) h (fun h => ?_) (fun h => ?_)
  · refine k_iconst X dX10_descendants_12 ?_
    refine k_istore_n X dX10_descendants_13 h (fun v2 => [(2, kI v2), (0, .ref (ad 0)), (1, kI a1)]) (by decide) (fun _ => rfl) (fun v2 h => ?_)
    refine k_iconst X dX10_descendants_14 ?_
    refine k_istore_n X dX10_descendants_15 h (fun v3 => [(3, kI v3), (2, kI v2), (0, .ref (ad 0)), (1, kI a1)]) (by decide) (fun _ => rfl) (fun v3 h => ?_)
    refine k_sub (lv' := [(0, .ref (ad 0)), (1, kI a1), (2, kI v2), (3, kI v3)]) [2, 3, 1, 0] rfl ?_
    refine h (fun v5 v6 => kAt p l e (kR 2) s m ([.ref (ad 0), kI a1] : List Value).toArray below meth c (MQ below (kQl NM kdM D cA ad (fun v z1 => z1 = z ∧ Kp v)) ([.ref (ad 0), kI a1] : List Value).toArray s 0 0 (kA NM ad)) 4 NM kdM D cA ad 16 [(0, .ref (ad 0)), (1, kI a1), (2, kI v5), (3, kI v6)] [] z) (fun v5 v6 h => ?_)
    refine k_iload_n X dX10_descendants_16 3 rfl ?_
    refine k_aload_n X dX10_descendants_17 0 rfl ?_
    refine k_getR (t := 1) X fk_X10_11 (by rfl) (by decide) rfl dX10_descendants_18 ?_
    refine k_iconst X dX10_descendants_21 ?_
    refine k_iald X kzM_1 (Nat.le_of_ble_eq_true rfl) dX10_descendants_22 ⟨⟨by decide, by decide⟩, h⟩ (fun h => ?_)
    refine k_icmp_ge (tgt := 60) X dX10_descendants_23 (by decide) h (fun h => ?_) (fun h => ?_)
    · refine k_iload_n X dX10_descendants_60 2 rfl ?_
      refine k_i2l X dX10_descendants_61 h (fun h => ?_)
      exact k_lret X hrt hlk dX10_descendants_62 ⟨rfl, h⟩
    · refine k_iload_n X dX10_descendants_26 2 rfl ?_
      refine k_aload_n X dX10_descendants_27 0 rfl ?_
      refine k_getR (t := 9) X fk_X10_36 (by rfl) (by decide) rfl dX10_descendants_28 ?_
      refine k_iload_n X dX10_descendants_31 3 rfl ?_
      refine k_iald X kzM_9 (Nat.le_of_ble_eq_true rfl) dX10_descendants_32 h (fun h => ?_)
      refine k_aload_n X dX10_descendants_33 0 rfl ?_
      refine k_getR (t := 6) X fk_X10_27 (by rfl) (by decide) rfl dX10_descendants_34 ?_
      refine k_iload_n X dX10_descendants_37 1 rfl ?_
      refine k_iald X kzM_6 (Nat.le_of_ble_eq_true rfl) dX10_descendants_38 h (fun h => ?_)
      refine k_afterP (st := [kI v5]) (fun H locs ls hP hS hl => k_runS (As := [kI (z 9 v6.toNat), kI (z 6 a1.toNat)]) X lk_X10_89 yo_X10_has rfl (kR_ok (by decide) (by decide)) (ct_X10_has (kCx_j X) _ _ _ _ h) (Nat.le_of_ble_eq_true rfl) dX10_descendants_39 hP hS hl) (fun v7 h => ?_)
      refine jn_use (fun J9 => ∀ (v8 : Int), J9 v8 → kAt p l e (kR 2) s m ([.ref (ad 0), kI a1] : List Value).toArray below meth c (MQ below (kQl NM kdM D cA ad (fun v z1 => z1 = z ∧ Kp v)) ([.ref (ad 0), kI a1] : List Value).toArray s 0 0 (kA NM ad)) 4 NM kdM D cA ad 54 [(0, .ref (ad 0)), (1, kI a1), (2, kI v8), (3, kI v6)] [] z) h ?_ (fun J9 hJ9 h => ?_)
      · intro v8 h
        refine k_iinc X dX10_descendants_54 3 rfl h (fun v10 => [(3, kI v10), (0, .ref (ad 0)), (1, kI a1), (2, kI v8)]) (by decide) (fun _ => rfl) (fun v10 h => ?_)
        refine k_goto (tgt := 16) X dX10_descendants_57 (by decide) ?_
        exact k_sub [1, 2, 3, 0] rfl h
      · refine k_if_eq (tgt := 51) X dX10_descendants_42 (by decide) h (fun h => ?_) (fun h => ?_)
        · refine k_iconst X dX10_descendants_51 ?_
          refine k_ior X dX10_descendants_52 ?_
          refine k_istore_n X dX10_descendants_53 h (fun v11 => [(2, kI v11), (0, .ref (ad 0)), (1, kI a1), (3, kI v6)]) (by decide) (fun _ => rfl) (fun v11 h => ?_)
          exact k_sub [1, 2, 0, 3] rfl (hJ9 _ h)
        · refine k_iconst X dX10_descendants_45 ?_
          refine k_iload_n X dX10_descendants_46 3 rfl ?_
          refine k_ishl X dX10_descendants_47 ?_
          refine k_goto (tgt := 52) X dX10_descendants_48 (by decide) ?_
          refine k_ior X dX10_descendants_52 ?_
          refine k_istore_n X dX10_descendants_53 h (fun v12 => [(2, kI v12), (0, .ref (ad 0)), (1, kI a1), (3, kI v6)]) (by decide) (fun _ => rfl) (fun v12 h => ?_)
          exact k_sub [1, 2, 0, 3] rfl (hJ9 _ h)
  · refine k_ldc2 X (-9223372036854775808) mw1209 dX10_descendants_8 ?_
    exact k_lret X hrt hlk dX10_descendants_11 ⟨rfl, h⟩
set_option maxHeartbeats 4000000 in
set_option maxRecDepth 100000 in
theorem ct_X10_isEnd {l : Launch} {D : va_G} {cA : Nat → ClassId} {ad sa : Nat → Nat} (hj : kInj NM ad) (a1 : Int) (a2 : Int) (a3 : Int) (z : Hp) (Kp : Int → Prop) (h : cal_X10_isEnd a1 a2 a3 z Kp) : kMet l yX10_isEnd cX10_isEnd 4 (some .boolean) 2 NM kdM D cA ad sa [.ref (ad 0), kI a1, kI a2, kI a3] z (kQi NM kdM D cA ad (fun v z1 => z1 = z ∧ Kp v)) := by
  unfold cal_X10_isEnd at h
  refine k_met (cc := cX10_isEnd) (own := RX10) (nL := 4) rfl rfl (Nat.le_of_ble_eq_true rfl) hj kltM (fun p e s m below meth c X hrt hlk => ?_)
  refine k_sub (lv' := [(0, .ref (ad 0)), (1, kI a1), (2, kI a2), (3, kI a3)]) [0, 1, 2, 3] rfl ?_
  refine k_aload_n X dX10_isEnd_0 0 rfl ?_
  refine k_iload_n X dX10_isEnd_1 1 rfl ?_
  refine k_afterP (st := []) (fun H locs ls hP hS hl => k_runV (As := [kI a1]) X lk_X10_170 rfl yo_X10_isPerson rfl (kR_ok (by decide) (by decide)) (ct_X10_isPerson (kCx_j X) _ _ _ h) (by rfl) rfl (Nat.le_of_ble_eq_true rfl) dX10_isEnd_2 hP hS hl) (fun v1 h => ?_)
  refine k_if_eq (tgt := 30) X dX10_isEnd_5 (by decide) h (fun h => ?_) (fun h => ?_)
  · refine k_iconst X dX10_isEnd_30 ?_
    exact k_zret X hrt hlk dX10_isEnd_31 ⟨Or.inl rfl, ⟨rfl, h⟩⟩
  · refine k_iload_n X dX10_isEnd_8 2 rfl ?_
    refine k_iconst X dX10_isEnd_9 ?_
    refine k_iconst X dX10_isEnd_10 ?_
    refine k_afterP (st := []) (fun H locs ls hP hS hl => k_runS (As := [kI a2, kI 0, kI 1]) X lk_X10_72 yo_X10_isIn rfl (kR_ok (by decide) (by decide)) (ct_X10_isIn (kCx_j X) _ _ _ _ _ h) (Nat.le_of_ble_eq_true rfl) dX10_isEnd_11 hP hS hl) (fun v2 h => ?_)
    refine k_if_eq (tgt := 30) X dX10_isEnd_14 (by decide) h (fun h => ?_) (fun h => ?_)
    · refine k_iconst X dX10_isEnd_30 ?_
      exact k_zret X hrt hlk dX10_isEnd_31 ⟨Or.inl rfl, ⟨rfl, h⟩⟩
    · refine k_iload_n X dX10_isEnd_17 3 rfl ?_
      refine k_iconst X dX10_isEnd_18 ?_
      refine k_iconst X dX10_isEnd_19 ?_
      refine k_afterP (st := []) (fun H locs ls hP hS hl => k_runS (As := [kI a3, kI 0, kI 1]) X lk_X10_72 yo_X10_isIn rfl (kR_ok (by decide) (by decide)) (ct_X10_isIn (kCx_j X) _ _ _ _ _ h) (Nat.le_of_ble_eq_true rfl) dX10_isEnd_20 hP hS hl) (fun v3 h => ?_)
      refine k_if_eq (tgt := 30) X dX10_isEnd_23 (by decide) h (fun h => ?_) (fun h => ?_)
      · refine k_iconst X dX10_isEnd_30 ?_
        exact k_zret X hrt hlk dX10_isEnd_31 ⟨Or.inl rfl, ⟨rfl, h⟩⟩
      · refine k_iconst X dX10_isEnd_26 ?_
        refine k_goto (tgt := 31) X dX10_isEnd_27 (by decide) ?_
        exact k_zret X hrt hlk dX10_isEnd_31 ⟨Or.inr rfl, ⟨rfl, h⟩⟩
set_option maxHeartbeats 4000000 in
set_option maxRecDepth 100000 in
theorem ct_X10_end {l : Launch} {D : va_G} {cA : Nat → ClassId} {ad sa : Nat → Nat} (hj : kInj NM ad) (a1 : Int) (a2 : Int) (a3 : Int) (z : Hp) (Kp : Int → Prop) (h : cal_X10_end a1 a2 a3 z Kp) : kMet l yX10_end cX10_end 4 (some .int) 3 NM kdM D cA ad sa [.ref (ad 0), kI a1, kI a2, kI a3] z (kQi NM kdM D cA ad (fun v z1 => z1 = z ∧ Kp v)) := by
  unfold cal_X10_end at h
  refine k_met (cc := cX10_end) (own := RX10) (nL := 4) rfl rfl (Nat.le_of_ble_eq_true rfl) hj kltM (fun p e s m below meth c X hrt hlk => ?_)
  refine k_sub (lv' := [(0, .ref (ad 0)), (1, kI a1), (2, kI a2), (3, kI a3)]) [0, 1, 2, 3] rfl ?_
  refine k_aload_n X dX10_end_0 0 rfl ?_
  refine k_iload_n X dX10_end_1 1 rfl ?_
  refine k_iload_n X dX10_end_2 2 rfl ?_
  refine k_iload_n X dX10_end_3 3 rfl ?_
  refine k_afterP (st := []) (fun H locs ls hP hS hl => k_runV (As := [kI a1, kI a2, kI a3]) X lk_X10_243 rfl yo_X10_isEnd rfl (kR_ok (by decide) (by decide)) (ct_X10_isEnd (kCx_j X) _ _ _ _ _ h) (by rfl) rfl (Nat.le_of_ble_eq_true rfl) dX10_end_4 hP hS hl) (fun v1 h => ?_)
  refine k_if_eq (tgt := 25) X dX10_end_7 (by decide) h (fun h => ?_) (fun h => ?_)
  · refine k_iconst X dX10_end_25 ?_
    exact k_iret X hrt hlk dX10_end_26 ⟨rfl, h⟩
  · refine k_aload_n X dX10_end_10 0 rfl ?_
    refine k_getR (t := 10) X fk_X10_39 (by rfl) (by decide) rfl dX10_end_11 ?_
    refine k_aload_n X dX10_end_14 0 rfl ?_
    refine k_iload_n X dX10_end_15 1 rfl ?_
    refine k_iload_n X dX10_end_16 2 rfl ?_
    refine k_iload_n X dX10_end_17 3 rfl ?_
    refine k_afterP (st := [.ref (ad 10)]) (fun H locs ls hP hS hl => k_runV (As := [kI a1, kI a2, kI a3]) X lk_X10_246 rfl yo_X10_endOf rfl (kR_ok (by decide) (by decide)) (ct_X10_endOf (kCx_j X) _ _ _ _ _ h) (by rfl) rfl (Nat.le_of_ble_eq_true rfl) dX10_end_18 hP hS hl) (fun v2 h => ?_)
    refine k_iald X kzM_10 (Nat.le_of_ble_eq_true rfl) dX10_end_21 h (fun h => ?_)
    refine k_goto (tgt := 26) X dX10_end_22 (by decide) ?_
    exact k_iret X hrt hlk dX10_end_26 ⟨rfl, h⟩
set_option maxHeartbeats 4000000 in
set_option maxRecDepth 100000 in
theorem ct_X10_fails {l : Launch} {D : va_G} {cA : Nat → ClassId} {ad sa : Nat → Nat} (hj : kInj NM ad) (a1 : Int) (z : Hp) (Kp : Hp → Prop) (h : cal_X10_fails a1 z Kp) : kMet l yX10_fails cX10_fails 2 none 0 NM kdM D cA ad sa [.ref (ad 0), kI a1] z (kQv NM kdM D cA ad Kp) := by
  unfold cal_X10_fails at h
  refine k_met (cc := cX10_fails) (own := RX10) (nL := 2) rfl rfl (Nat.le_of_ble_eq_true rfl) hj kltM (fun p e s m below meth c X hrt hlk => ?_)
  refine k_sub (lv' := [(0, .ref (ad 0)), (1, kI a1)]) [0, 1] rfl ?_
  refine k_aload_n X dX10_fails_0 0 rfl ?_
  refine k_getI X fk_X10_173 (by rfl) rfl dX10_fails_1 ?_
  refine k_if_ge (tgt := 12) X dX10_fails_4 (by decide) h (fun h => ?_) (fun h => ?_)
  · exact k_vret X hrt hlk dX10_fails_12 h
  · refine k_aload_n X dX10_fails_7 0 rfl ?_
    refine k_iload_n X dX10_fails_8 1 rfl ?_
    refine k_putI X fp_X10_173 (by rfl) rfl dX10_fails_9 (k_nameH h (fun z1 h => ?_))
    exact k_vret X hrt hlk dX10_fails_12 h
