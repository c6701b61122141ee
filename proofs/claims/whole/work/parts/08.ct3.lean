set_option maxHeartbeats 4000000 in
set_option maxRecDepth 100000 in
theorem ct_X10_reads {l : Launch} {D : va_G} {cA : Nat → ClassId} {ad sa : Nat → Nat} (hj : kInj NM ad)  (z : Hp) (Kp : Int → Hp → Prop) (h : cal_X10_reads  z Kp) : kMet l yX10_reads cX10_reads 2 (some .boolean) 2 NM kdM D cA ad sa [.ref (ad 0)] z (kQi NM kdM D cA ad Kp) := by
  unfold cal_X10_reads at h
  refine k_met (cc := cX10_reads) (own := RX10) (nL := 2) rfl rfl (Nat.le_of_ble_eq_true rfl) hj kltM (fun p e s m below meth c X hrt hlk => ?_)
  refine k_sub (lv' := [(0, .ref (ad 0))]) [0] rfl ?_
  refine k_aload_n X dX10_reads_0 0 rfl ?_
  refine k_iconst X dX10_reads_1 ?_
  refine k_putI X fp_X10_176 (by rfl) rfl dX10_reads_2 (k_nameH h (fun z1 h => ?_))
  refine k_aload_n X dX10_reads_5 0 rfl ?_
  refine k_iconst X dX10_reads_6 ?_
  refine k_putI X fp_X10_173 (by rfl) rfl dX10_reads_7 (k_nameH h (fun z2 h => ?_))
  refine k_aload_n X dX10_reads_10 0 rfl ?_
  refine k_getI X fk_X10_160 (by rfl) rfl dX10_reads_11 ?_
  refine jn_use (fun J4 => ∀ (v3 : Int), J4 v3 → kAt p l e (kR 2) s m ([.ref (ad 0)] : List Value).toArray below meth c (MQ below (kQi NM kdM D cA ad Kp) ([.ref (ad 0)] : List Value).toArray s 0 0 (kA NM ad)) 2 NM kdM D cA ad 31 [(0, .ref (ad 0)), (1, kI v3)] [] z2) h ?_ (fun J4 hJ4 h => ?_)
  · intro v3 h
    refine k_iload_n X dX10_reads_31 1 rfl ?_
    refine jn_use (fun J5 => ∀ (z6 : Hp), J5 z6 → kAt p l e (kR 2) s m ([.ref (ad 0)] : List Value).toArray below meth c (MQ below (kQi NM kdM D cA ad Kp) ([.ref (ad 0)] : List Value).toArray s 0 0 (kA NM ad)) 2 NM kdM D cA ad 40 [(0, .ref (ad 0)), (1, kI v3)] [] z6) h ?_ (fun J5 hJ5 h => ?_)
    · intro z6 h
      refine k_aload_n X dX10_reads_40 0 rfl ?_
      refine k_getR (t := 5) X fk_X10_24 (by rfl) (by decide) rfl dX10_reads_41 ?_
      refine k_iconst X dX10_reads_44 ?_
      refine k_iload_n X dX10_reads_45 1 rfl ?_
      refine k_iast X kzM_5 (Nat.le_of_ble_eq_true rfl) dX10_reads_46 ⟨⟨by decide, by decide⟩, h⟩ (fun h => k_nameH h (fun z7 h => ?_))
      refine k_aload_n X dX10_reads_47 0 rfl ?_
      refine k_getR (t := 5) X fk_X10_24 (by rfl) (by decide) rfl dX10_reads_48 ?_
      refine k_iconst X dX10_reads_51 ?_
      refine k_aload_n X dX10_reads_52 0 rfl ?_
      refine k_iconst X dX10_reads_53 ?_
      refine k_aload_n X dX10_reads_54 0 rfl ?_
      refine k_getR (t := 1) X fk_X10_11 (by rfl) (by decide) rfl dX10_reads_55 ?_
      refine k_iconst X dX10_reads_58 ?_
      refine k_iald X kzM_1 (Nat.le_of_ble_eq_true rfl) dX10_reads_59 ⟨⟨by decide, by decide⟩, h⟩ (fun h => ?_)
      refine k_iconst X dX10_reads_60 ?_
      refine k_isub X dX10_reads_61 ?_
      refine k_iconst X dX10_reads_62 ?_
      refine k_afterI (st := [kI 1, .ref (ad 5)]) (fun H locs ls hP hS hl => k_runV (As := [kI 0, kI ((z7 1 0) - 1), kI (-1)]) X lk_X10_185 rfl yo_X10_number rfl (kR_ok (by decide) (by decide)) (ct_X10_number (kCx_j X) _ _ _ _ _ h) (by rfl) rfl (Nat.le_of_ble_eq_true rfl) dX10_reads_63 hP hS hl) (fun v9 z8 h => ?_)
      refine k_iast X kzM_5 (Nat.le_of_ble_eq_true rfl) dX10_reads_66 ⟨⟨by decide, by decide⟩, h⟩ (fun h => k_nameH h (fun z10 h => ?_))
      refine k_aload_n X dX10_reads_67 0 rfl ?_
      refine k_getR (t := 5) X fk_X10_24 (by rfl) (by decide) rfl dX10_reads_68 ?_
      refine k_iconst X dX10_reads_71 ?_
      refine k_iload_n X dX10_reads_72 1 rfl ?_
      refine k_afterP (st := [kI 2, .ref (ad 5)]) (fun H locs ls hP hS hl => k_runS (As := [kI v3]) X lk_X10_189 yo_X10_isOfTwo rfl (kR_ok (by decide) (by decide)) (ct_X10_isOfTwo (kCx_j X) _ _ _ h) (Nat.le_of_ble_eq_true rfl) dX10_reads_73 hP hS hl) (fun v11 h => ?_)
      refine jn_use (fun J12 => ∀ (z13 : Hp), J12 z13 → kAt p l e (kR 2) s m ([.ref (ad 0)] : List Value).toArray below meth c (MQ below (kQi NM kdM D cA ad Kp) ([.ref (ad 0)] : List Value).toArray s 0 0 (kA NM ad)) 2 NM kdM D cA ad 104 [(0, .ref (ad 0)), (1, kI v3)] [] z13) h ?_ (fun J12 hJ12 h => ?_)
      · intro z13 h
        refine k_aload_n X dX10_reads_104 0 rfl ?_
        refine k_getR (t := 5) X fk_X10_24 (by rfl) (by decide) rfl dX10_reads_105 ?_
        refine k_iconst X dX10_reads_108 ?_
        refine k_iload_n X dX10_reads_109 1 rfl ?_
        refine k_afterP (st := [kI 3, .ref (ad 5)]) (fun H locs ls hP hS hl => k_runS (As := [kI v3]) X lk_X10_192 yo_X10_isOfYears rfl (kR_ok (by decide) (by decide)) (ct_X10_isOfYears (kCx_j X) _ _ _ h) (Nat.le_of_ble_eq_true rfl) dX10_reads_110 hP hS hl) (fun v14 h => ?_)
        refine jn_use (fun J15 => ∀ (z16 : Hp), J15 z16 → kAt p l e (kR 2) s m ([.ref (ad 0)] : List Value).toArray below meth c (MQ below (kQi NM kdM D cA ad Kp) ([.ref (ad 0)] : List Value).toArray s 0 0 (kA NM ad)) 2 NM kdM D cA ad 154 [(0, .ref (ad 0)), (1, kI v3)] [] z16) h ?_ (fun J15 hJ15 h => ?_)
        · intro z16 h
          refine k_aload_n X dX10_reads_154 0 rfl ?_
          refine k_getR (t := 5) X fk_X10_24 (by rfl) (by decide) rfl dX10_reads_155 ?_
          refine k_iconst X dX10_reads_158 ?_
          refine k_iload_n X dX10_reads_159 1 rfl ?_
          refine k_afterP (st := [kI 4, .ref (ad 5)]) (fun H locs ls hP hS hl => k_runS (As := [kI v3]) X lk_X10_192 yo_X10_isOfYears rfl (kR_ok (by decide) (by decide)) (ct_X10_isOfYears (kCx_j X) _ _ _ h) (Nat.le_of_ble_eq_true rfl) dX10_reads_160 hP hS hl) (fun v17 h => ?_)
          refine jn_use (fun J18 => ∀ (z19 : Hp), J18 z19 → kAt p l e (kR 2) s m ([.ref (ad 0)] : List Value).toArray below meth c (MQ below (kQi NM kdM D cA ad Kp) ([.ref (ad 0)] : List Value).toArray s 0 0 (kA NM ad)) 2 NM kdM D cA ad 186 [(0, .ref (ad 0))] [] z19) h ?_ (fun J18 hJ18 h => ?_)
          · intro z19 h
            refine k_aload_n X dX10_reads_186 0 rfl ?_
            refine k_getI X fk_X10_176 (by rfl) rfl dX10_reads_187 ?_
            refine k_aload_n X dX10_reads_190 0 rfl ?_
            refine k_getI X fk_X10_160 (by rfl) rfl dX10_reads_191 ?_
            refine jn_use (fun J20 => ∀ (z21 : Hp), J20 z21 → kAt p l e (kR 2) s m ([.ref (ad 0)] : List Value).toArray below meth c (MQ below (kQi NM kdM D cA ad Kp) ([.ref (ad 0)] : List Value).toArray s 0 0 (kA NM ad)) 2 NM kdM D cA ad 205 [(0, .ref (ad 0))] [] z21) h ?_ (fun J20 hJ20 h => ?_)
            · intro z21 h
              refine k_aload_n X dX10_reads_205 0 rfl ?_
              refine k_iconst X dX10_reads_206 ?_
              refine k_putI X fp_X10_160 (by rfl) rfl dX10_reads_207 (k_nameH h (fun z22 h => ?_))
              refine k_aload_n X dX10_reads_210 0 rfl ?_
              refine k_getI X fk_X10_173 (by rfl) rfl dX10_reads_211 ?_
              refine k_if_ge (tgt := 221) X dX10_reads_214 (by decide) h (fun h => ?_) (fun h => ?_)
              · refine k_iconst X dX10_reads_221 ?_
                exact k_zret X hrt hlk dX10_reads_222 ⟨Or.inl rfl, h⟩
              · refine k_iconst X dX10_reads_217 ?_
                refine k_goto (tgt := 222) X dX10_reads_218 (by decide) ?_
                exact k_zret X hrt hlk dX10_reads_222 ⟨Or.inr rfl, h⟩
            · refine k_icmp_ge (tgt := 205) X dX10_reads_194 (by decide) h (fun h => ?_) (fun h => ?_)
              · exact k_sub [0] rfl (hJ20 _ h)
              · refine k_aload_n X dX10_reads_197 0 rfl ?_
                refine k_aload_n X dX10_reads_198 0 rfl ?_
                refine k_getI X fk_X10_176 (by rfl) rfl dX10_reads_199 ?_
                refine k_afterV (st := []) (fun H locs ls hP hS hl => k_runV (As := [kI (z19 0 8)]) X lk_X10_179 rfl yo_X10_fails rfl (kR_ok (by decide) (by decide)) (ct_X10_fails (kCx_j X) _ _ _ h) (by rfl) rfl (Nat.le_of_ble_eq_true rfl) dX10_reads_202 hP hS hl) (fun z23 h => ?_)
                exact k_sub [0] rfl (hJ20 _ h)
          · refine k_if_eq (tgt := 183) X dX10_reads_163 (by decide) h (fun h => ?_) (fun h => ?_)
            · refine k_bipush X dX10_reads_183 (by decide +kernel) ?_
              refine k_iast X kzM_5 (Nat.le_of_ble_eq_true rfl) dX10_reads_185 ⟨⟨by decide, by decide⟩, h⟩ (fun h => k_nameH h (fun z24 h => ?_))
              exact k_sub [0] rfl (hJ18 _ h)
            · refine k_aload_n X dX10_reads_166 0 rfl ?_
              refine k_aload_n X dX10_reads_167 0 rfl ?_
              refine k_getR (t := 5) X fk_X10_24 (by rfl) (by decide) rfl dX10_reads_168 ?_
              refine k_iconst X dX10_reads_171 ?_
              refine k_iald X kzM_5 (Nat.le_of_ble_eq_true rfl) dX10_reads_172 ⟨⟨by decide, by decide⟩, h⟩ (fun h => ?_)
              refine k_sipush X dX10_reads_173 (by decide +kernel) ?_
              refine k_iconst X dX10_reads_176 ?_
              refine k_afterI (st := [kI 4, .ref (ad 5)]) (fun H locs ls hP hS hl => k_runV (As := [kI (z16 5 3), kI 3000, kI (-1)]) X lk_X10_185 rfl yo_X10_number rfl (kR_ok (by decide) (by decide)) (ct_X10_number (kCx_j X) _ _ _ _ _ h) (by rfl) rfl (Nat.le_of_ble_eq_true rfl) dX10_reads_177 hP hS hl) (fun v26 z25 h => ?_)
              refine k_goto (tgt := 185) X dX10_reads_180 (by decide) ?_
              refine k_iast X kzM_5 (Nat.le_of_ble_eq_true rfl) dX10_reads_185 ⟨⟨by decide, by decide⟩, h⟩ (fun h => k_nameH h (fun z27 h => ?_))
              exact k_sub [0] rfl (hJ18 _ h)
        · refine k_if_ne (tgt := 122) X dX10_reads_113 (by decide) h (fun h => ?_) (fun h => ?_)
          · refine k_aload_n X dX10_reads_122 0 rfl ?_
            refine k_iconst X dX10_reads_123 ?_
            refine k_sipush X dX10_reads_124 (by decide +kernel) ?_
            refine k_iconst X dX10_reads_127 ?_
            refine k_afterI (st := [kI 3, .ref (ad 5)]) (fun H locs ls hP hS hl => k_runV (As := [kI 0, kI 3000, kI (-1)]) X lk_X10_185 rfl yo_X10_number rfl (kR_ok (by decide) (by decide)) (ct_X10_number (kCx_j X) _ _ _ _ _ h) (by rfl) rfl (Nat.le_of_ble_eq_true rfl) dX10_reads_128 hP hS hl) (fun v29 z28 h => ?_)
            refine k_goto (tgt := 153) X dX10_reads_131 (by decide) ?_
            refine k_iast X kzM_5 (Nat.le_of_ble_eq_true rfl) dX10_reads_153 ⟨⟨by decide, by decide⟩, h⟩ (fun h => k_nameH h (fun z30 h => ?_))
            exact k_sub [0, 1] rfl (hJ15 _ h)
          · refine k_iload_n X dX10_reads_116 1 rfl ?_
            refine k_bipush X dX10_reads_117 (by decide +kernel) ?_
            refine k_icmp_ne (tgt := 134) X dX10_reads_119 (by decide) ⟨h.1, ⟨by decide, by decide⟩, h.2⟩ (fun h => ?_) (fun h => ?_)
            · refine k_iload_n X dX10_reads_134 1 rfl ?_
              refine k_bipush X dX10_reads_135 (by decide +kernel) ?_
              refine k_icmp_ne (tgt := 151) X dX10_reads_137 (by decide) ⟨h.1, ⟨by decide, by decide⟩, h.2⟩ (fun h => ?_) (fun h => ?_)
              · refine k_bipush X dX10_reads_151 (by decide +kernel) ?_
                refine k_iast X kzM_5 (Nat.le_of_ble_eq_true rfl) dX10_reads_153 ⟨⟨by decide, by decide⟩, h⟩ (fun h => k_nameH h (fun z31 h => ?_))
                exact k_sub [0, 1] rfl (hJ15 _ h)
              · refine k_aload_n X dX10_reads_140 0 rfl ?_
                refine k_iconst X dX10_reads_141 ?_
                refine k_bipush X dX10_reads_142 (by decide +kernel) ?_
                refine k_iconst X dX10_reads_144 ?_
                refine k_afterI (st := [kI 3, .ref (ad 5)]) (fun H locs ls hP hS hl => k_runV (As := [kI 0, kI 99, kI (-1)]) X lk_X10_185 rfl yo_X10_number rfl (kR_ok (by decide) (by decide)) (ct_X10_number (kCx_j X) _ _ _ _ _ h) (by rfl) rfl (Nat.le_of_ble_eq_true rfl) dX10_reads_145 hP hS hl) (fun v33 z32 h => ?_)
                refine k_goto (tgt := 153) X dX10_reads_148 (by decide) ?_
                refine k_iast X kzM_5 (Nat.le_of_ble_eq_true rfl) dX10_reads_153 ⟨⟨by decide, by decide⟩, h⟩ (fun h => k_nameH h (fun z34 h => ?_))
                exact k_sub [0, 1] rfl (hJ15 _ h)
            · refine k_aload_n X dX10_reads_122 0 rfl ?_
              refine k_iconst X dX10_reads_123 ?_
              refine k_sipush X dX10_reads_124 (by decide +kernel) ?_
              refine k_iconst X dX10_reads_127 ?_
              refine k_afterI (st := [kI 3, .ref (ad 5)]) (fun H locs ls hP hS hl => k_runV (As := [kI 0, kI 3000, kI (-1)]) X lk_X10_185 rfl yo_X10_number rfl (kR_ok (by decide) (by decide)) (ct_X10_number (kCx_j X) _ _ _ _ _ h) (by rfl) rfl (Nat.le_of_ble_eq_true rfl) dX10_reads_128 hP hS hl) (fun v36 z35 h => ?_)
              refine k_goto (tgt := 153) X dX10_reads_131 (by decide) ?_
              refine k_iast X kzM_5 (Nat.le_of_ble_eq_true rfl) dX10_reads_153 ⟨⟨by decide, by decide⟩, h⟩ (fun h => k_nameH h (fun z37 h => ?_))
              exact k_sub [0, 1] rfl (hJ15 _ h)
      · refine k_if_eq (tgt := 101) X dX10_reads_76 (by decide) h (fun h => ?_) (fun h => ?_)
        · refine k_bipush X dX10_reads_101 (by decide +kernel) ?_
          refine k_iast X kzM_5 (Nat.le_of_ble_eq_true rfl) dX10_reads_103 ⟨⟨by decide, by decide⟩, h⟩ (fun h => k_nameH h (fun z38 h => ?_))
          exact k_sub [0, 1] rfl (hJ12 _ h)
        · refine k_aload_n X dX10_reads_79 0 rfl ?_
          refine k_iconst X dX10_reads_80 ?_
          refine k_aload_n X dX10_reads_81 0 rfl ?_
          refine k_getR (t := 1) X fk_X10_11 (by rfl) (by decide) rfl dX10_reads_82 ?_
          refine k_iconst X dX10_reads_85 ?_
          refine k_iald X kzM_1 (Nat.le_of_ble_eq_true rfl) dX10_reads_86 ⟨⟨by decide, by decide⟩, h⟩ (fun h => ?_)
          refine k_iconst X dX10_reads_87 ?_
          refine k_isub X dX10_reads_88 ?_
          refine k_aload_n X dX10_reads_89 0 rfl ?_
          refine k_getR (t := 5) X fk_X10_24 (by rfl) (by decide) rfl dX10_reads_90 ?_
          refine k_iconst X dX10_reads_93 ?_
          refine k_iald X kzM_5 (Nat.le_of_ble_eq_true rfl) dX10_reads_94 ⟨⟨by decide, by decide⟩, h⟩ (fun h => ?_)
          refine k_afterI (st := [kI 2, .ref (ad 5)]) (fun H locs ls hP hS hl => k_runV (As := [kI 0, kI ((z10 1 0) - 1), kI (z10 5 1)]) X lk_X10_185 rfl yo_X10_number rfl (kR_ok (by decide) (by decide)) (ct_X10_number (kCx_j X) _ _ _ _ _ h) (by rfl) rfl (Nat.le_of_ble_eq_true rfl) dX10_reads_95 hP hS hl) (fun v40 z39 h => ?_)
          refine k_goto (tgt := 103) X dX10_reads_98 (by decide) ?_
          refine k_iast X kzM_5 (Nat.le_of_ble_eq_true rfl) dX10_reads_103 ⟨⟨by decide, by decide⟩, h⟩ (fun h => k_nameH h (fun z41 h => ?_))
          exact k_sub [0, 1] rfl (hJ12 _ h)
    · refine k_if_ge (tgt := 40) X dX10_reads_32 (by decide) h (fun h => ?_) (fun h => ?_)
      · exact k_sub [0, 1] rfl (hJ5 _ h)
      · refine k_aload_n X dX10_reads_35 0 rfl ?_
        refine k_iconst X dX10_reads_36 ?_
        refine k_afterV (st := []) (fun H locs ls hP hS hl => k_runV (As := [kI 0]) X lk_X10_179 rfl yo_X10_fails rfl (kR_ok (by decide) (by decide)) (ct_X10_fails (kCx_j X) _ _ _ h) (by rfl) rfl (Nat.le_of_ble_eq_true rfl) dX10_reads_37 hP hS hl) (fun z42 h => ?_)
        exact k_sub [0, 1] rfl (hJ5 _ h)
  · refine k_if_ne (tgt := 21) X dX10_reads_14 (by decide) h (fun h => ?_) (fun h => ?_)
    · refine k_aload_n X dX10_reads_21 0 rfl ?_
      refine k_getR (t := 3) X fk_X10_18 (by rfl) (by decide) rfl dX10_reads_22 ?_
      refine k_iconst X dX10_reads_25 ?_
      refine k_iald X kzM_3 (Nat.le_of_ble_eq_true rfl) dX10_reads_26 ⟨⟨by decide, by decide⟩, h⟩ (fun h => ?_)
      refine k_afterP (st := []) (fun H locs ls hP hS hl => k_runS (As := [kI (z2 3 0)]) X lk_X10_182 yo_X10_sortOf rfl (kR_ok (by decide) (by decide)) (ct_X10_sortOf (kCx_j X) _ _ _ h) (Nat.le_of_ble_eq_true rfl) dX10_reads_27 hP hS hl) (fun v43 h => ?_)
      refine k_istore_n X dX10_reads_30 h (fun v44 => [(1, kI v44), (0, .ref (ad 0))]) (by decide) (fun _ => rfl) (fun v44 h => ?_)
      exact k_sub [1, 0] rfl (hJ4 _ h)
    · refine k_iconst X dX10_reads_17 ?_
      refine k_goto (tgt := 30) X dX10_reads_18 (by decide) ?_
      refine k_istore_n X dX10_reads_30 h (fun v45 => [(1, kI v45), (0, .ref (ad 0))]) (by decide) (fun _ => rfl) (fun v45 h => ?_)
      exact k_sub [1, 0] rfl (hJ4 _ h)
set_option maxHeartbeats 4000000 in
set_option maxRecDepth 100000 in
theorem ct_X10_widthOf {l : Launch} {D : va_G} {cA : Nat → ClassId} {ad sa : Nat → Nat} (hj : kInj NM ad) (a1 : Int) (a2 : Int) (z : Hp) (Kp : Int → Prop) (h : cal_X10_widthOf a1 a2 z Kp) : kMet l yX10_widthOf cX10_widthOf 4 (some .int) 2 NM kdM D cA ad sa [.ref (ad 0), kI a1, kI a2] z (kQi NM kdM D cA ad (fun v z1 => z1 = z ∧ Kp v)) := by
  unfold cal_X10_widthOf at h
  refine k_met (cc := cX10_widthOf) (own := RX10) (nL := 4) rfl rfl (Nat.le_of_ble_eq_true rfl) hj kltM (fun p e s m below meth c X hrt hlk => ?_)
  refine k_sub (lv' := [(0, .ref (ad 0)), (1, kI a1), (2, kI a2)]) [0, 1, 2] rfl ?_
  refine k_aload_n X dX10_widthOf_0 0 rfl ?_
  refine k_iload_n X dX10_widthOf_1 1 rfl ?_
  refine k_iload_n X dX10_widthOf_2 2 rfl ?_
  refine k_iconst X dX10_widthOf_3 ?_
  refine k_afterP (st := []) (fun H locs ls hP hS hl => k_runV (As := [kI a1, kI a2, kI 0]) X lk_X10_246 rfl yo_X10_endOf rfl (kR_ok (by decide) (by decide)) (ct_X10_endOf (kCx_j X) _ _ _ _ _ h) (by rfl) rfl (Nat.le_of_ble_eq_true rfl) dX10_widthOf_4 hP hS hl) (fun v1 h => ?_)
  refine k_istore_n X dX10_widthOf_7 h (fun v2 => [(3, kI v2), (0, .ref (ad 0)), (1, kI a1), (2, kI a2)]) (by decide) (fun _ => rfl) (fun v2 h => ?_)
  refine k_aload_n X dX10_widthOf_8 1 rfl ?_
  refine k_getR (t := 10) X fk_X10_39 (by rfl) (by decide) rfl dX10_widthOf_9 ?_
  refine k_iload_n X dX10_widthOf_12 0 rfl ?_
  refine k_iconst X dX10_widthOf_13 ?_
  refine k_iadd X dX10_widthOf_14 ?_
  refine k_iald X kzM_10 (Nat.le_of_ble_eq_true rfl) dX10_widthOf_15 h (fun h => ?_)
  refine k_aload_n X dX10_widthOf_16 1 rfl ?_
  refine k_getR (t := 10) X fk_X10_39 (by rfl) (by decide) rfl dX10_widthOf_17 ?_
  refine k_iload_n X dX10_widthOf_20 0 rfl ?_
  refine k_iald X kzM_10 (Nat.le_of_ble_eq_true rfl) dX10_widthOf_21 h (fun h => ?_)
  refine k_isub X dX10_widthOf_22 ?_
  exact k_iret X hrt hlk dX10_widthOf_23 ⟨rfl, h⟩
set_option maxHeartbeats 4000000 in
set_option maxRecDepth 100000 in
theorem ct_X10_narrows_ {l : Launch} {D : va_G} {cA : Nat → ClassId} {ad sa : Nat → Nat} (hj : kInj NM ad) (a1 : Int) (a2 : Int) (z : Hp) (Kp : Int → Hp → Prop) (h : cal_X10_narrows_ a1 a2 z Kp) : kMet l yX10_narrows_ cX10_narrows_ 5 (some .int) 6 NM kdM D cA ad sa [.ref (ad 0), kI a1, kI a2] z (kQi NM kdM D cA ad Kp) := by
  unfold cal_X10_narrows_ at h
  refine k_met (cc := cX10_narrows_) (own := RX10) (nL := 5) rfl rfl (Nat.le_of_ble_eq_true rfl) hj kltM (fun p e s m below meth c X hrt hlk => ?_)
  refine k_sub (lv' := [(0, .ref (ad 0)), (1, kI a1), (2, kI a2)]) [0, 1, 2] rfl ?_
  refine k_aload_n X dX10_narrows__0 0 rfl ?_
  refine k_iload_n X dX10_narrows__1 1 rfl ?_
  refine k_afterP (st := []) (fun H locs ls hP hS hl => k_runV (As := [kI a1]) X lk_X10_170 rfl yo_X10_isPerson rfl (kR_ok (by decide) (by decide)) (ct_X10_isPerson (kCx_j X) _ _ _ h) (by rfl) rfl (Nat.le_of_ble_eq_true rfl) dX10_narrows__2 hP hS hl) (fun v1 h => ?_)
  refine k_if_eq (tgt := 17) X dX10_narrows__5 (by decide) h (fun h => ?_) (fun h => ?_)
  · refine k_iconst X dX10_narrows__17 ?_
    exact k_iret X hrt hlk dX10_narrows__18 h
  · refine k_iload_n X dX10_narrows__8 2 rfl ?_
    refine k_iconst X dX10_narrows__9 ?_
    refine k_iconst X dX10_narrows__10 ?_
    refine k_afterP (st := []) (fun H locs ls hP hS hl => k_runS (As := [kI a2, kI 0, kI 1]) X lk_X10_72 yo_X10_isIn rfl (kR_ok (by decide) (by decide)) (ct_X10_isIn (kCx_j X) _ _ _ _ _ h) (Nat.le_of_ble_eq_true rfl) dX10_narrows__11 hP hS hl) (fun v2 h => ?_)
    refine k_if_ne (tgt := 19) X dX10_narrows__14 (by decide) h (fun h => ?_) (fun h => ?_)
    · refine k_aload_n X dX10_narrows__19 0 rfl ?_
      refine k_getR (t := 1) X fk_X10_11 (by rfl) (by decide) rfl dX10_narrows__20 ?_
      refine k_iconst X dX10_narrows__23 ?_
      refine k_iald X kzM_1 (Nat.le_of_ble_eq_true rfl) dX10_narrows__24 ⟨⟨by decide, by decide⟩, h⟩ (fun h => ?_)
      refine k_bipush X dX10_narrows__25 (by decide +kernel) ?_
      refine k_icmp_ne (tgt := 33) X dX10_narrows__27 (by decide) ⟨h.1, ⟨by decide, by decide⟩, h.2⟩ (fun h => ?_) (fun h => ?_)
      · refine k_aload_n X dX10_narrows__33 0 rfl ?_
        refine k_getI X fk_X10_96 (by rfl) rfl dX10_narrows__34 ?_
        refine k_if_eq (tgt := 43) X dX10_narrows__37 (by decide) h (fun h => ?_) (fun h => ?_)
        · refine k_aload_n X dX10_narrows__43 0 rfl ?_
          refine k_afterI (st := []) (fun H locs ls hP hS hl => k_runV (As := []) X lk_X10_195 rfl yo_X10_reads rfl (kR_ok (by decide) (by decide)) (ct_X10_reads (kCx_j X)  _ _ h) (by rfl) rfl (Nat.le_of_ble_eq_true rfl) dX10_narrows__44 hP hS hl) (fun v4 z3 h => ?_)
          refine k_if_ne (tgt := 58) X dX10_narrows__47 (by decide) h (fun h => ?_) (fun h => ?_)
          · refine k_aload_n X dX10_narrows__58 0 rfl ?_
            refine k_iload_n X dX10_narrows__59 1 rfl ?_
            refine k_iload_n X dX10_narrows__60 2 rfl ?_
            refine k_afterP (st := []) (fun H locs ls hP hS hl => k_runV (As := [kI a1, kI a2]) X lk_X10_258 rfl yo_X10_widthOf rfl (kR_ok (by decide) (by decide)) (ct_X10_widthOf (kCx_j X) _ _ _ _ h) (by rfl) rfl (Nat.le_of_ble_eq_true rfl) dX10_narrows__61 hP hS hl) (fun v5 h => ?_)
            refine k_istore_n X dX10_narrows__64 h (fun v6 => [(3, kI v6), (0, .ref (ad 0)), (1, kI a1), (2, kI a2)]) (by decide) (fun _ => rfl) (fun v6 h => ?_)
            refine k_aload_n X dX10_narrows__65 1 rfl ?_
            refine k_iconst X dX10_narrows__66 ?_
            refine k_afterV (st := []) (fun H locs ls hP hS hl => k_runV (As := [kI 1]) X lk_X10_199 rfl yo_X10_comes rfl (kR_ok (by decide) (by decide)) (ct_X10_comes (kCx_j X) _ _ _ h) (by rfl) rfl (Nat.le_of_ble_eq_true rfl) dX10_narrows__67 hP hS hl) (fun z7 h => ?_)
            refine k_aload_n X dX10_narrows__70 1 rfl ?_
            refine k_getI X fk_X10_96 (by rfl) rfl dX10_narrows__71 ?_
            refine jn_use (fun J9 => ∀ (v8 : Int), J9 v8 → kAt p l e (kR 6) s m ([.ref (ad 0), kI a1, kI a2] : List Value).toArray below meth c (MQ below (kQi NM kdM D cA ad Kp) ([.ref (ad 0), kI a1, kI a2] : List Value).toArray s 0 0 (kA NM ad)) 5 NM kdM D cA ad 98 [(0, .ref (ad 0)), (4, kI v8)] [] z7) h ?_ (fun J9 hJ9 h => ?_)
            · intro v8 h
              refine k_aload_n X dX10_narrows__98 0 rfl ?_
              refine k_getR (t := 1) X fk_X10_11 (by rfl) (by decide) rfl dX10_narrows__99 ?_
              refine k_iconst X dX10_narrows__102 ?_
              refine k_dup2 X dX10_narrows__103 rfl rfl ?_
              refine k_iald X kzM_1 (Nat.le_of_ble_eq_true rfl) dX10_narrows__104 ⟨⟨by decide, by decide⟩, h⟩ (fun h => ?_)
              refine k_iconst X dX10_narrows__105 ?_
              refine k_isub X dX10_narrows__106 ?_
              refine k_iast X kzM_1 (Nat.le_of_ble_eq_true rfl) dX10_narrows__107 ⟨⟨by decide, by decide⟩, h⟩ (fun h => k_nameH h (fun z10 h => ?_))
              refine k_aload_n X dX10_narrows__108 0 rfl ?_
              refine k_afterV (st := []) (fun H locs ls hP hS hl => k_runV (As := []) X lk_X10_69 rfl yo_X10_works rfl (kR_ok (by decide) (by decide)) (ct_X10_works (kCx_j X)  _ _ h) (by rfl) rfl (Nat.le_of_ble_eq_true rfl) dX10_narrows__109 hP hS hl) (fun z11 h => ?_)
              refine k_iload X dX10_narrows__112 1 rfl ?_
              exact k_iret X hrt hlk dX10_narrows__114 h
            · refine k_if_eq (tgt := 88) X dX10_narrows__74 (by decide) h (fun h => ?_) (fun h => ?_)
              · refine k_iload_n X dX10_narrows__88 0 rfl ?_
                refine k_aload_n X dX10_narrows__89 1 rfl ?_
                refine k_iload_n X dX10_narrows__90 2 rfl ?_
                refine k_iload_n X dX10_narrows__91 3 rfl ?_
                refine k_afterP (st := [kI v6]) (fun H locs ls hP hS hl => k_runV (As := [kI a1, kI a2]) X lk_X10_258 rfl yo_X10_widthOf rfl (kR_ok (by decide) (by decide)) (ct_X10_widthOf (kCx_j X) _ _ _ _ h) (by rfl) rfl (Nat.le_of_ble_eq_true rfl) dX10_narrows__92 hP hS hl) (fun v12 h => ?_)
                refine k_isub X dX10_narrows__95 ?_
                refine k_istore X dX10_narrows__96 h (fun v13 => [(4, kI v13), (3, kI v6), (0, .ref (ad 0)), (1, kI a1), (2, kI a2)]) (by decide) (fun _ => rfl) (fun v13 h => ?_)
                exact k_sub [2, 0] rfl (hJ9 _ h)
              · refine k_sipush X dX10_narrows__77 (by decide +kernel) ?_
                refine k_aload_n X dX10_narrows__80 1 rfl ?_
                refine k_getI X fk_X10_96 (by rfl) rfl dX10_narrows__81 ?_
                refine k_isub X dX10_narrows__84 ?_
                refine k_goto (tgt := 96) X dX10_narrows__85 (by decide) ?_
                refine k_istore X dX10_narrows__96 h (fun v14 => [(4, kI v14), (3, kI v6), (0, .ref (ad 0)), (1, kI a1), (2, kI a2)]) (by decide) (fun _ => rfl) (fun v14 h => ?_)
                exact k_sub [2, 0] rfl (hJ9 _ h)
          · refine k_bipush X dX10_narrows__50 (by decide +kernel) ?_
            refine k_aload_n X dX10_narrows__52 0 rfl ?_
            refine k_getI X fk_X10_173 (by rfl) rfl dX10_narrows__53 ?_
            refine k_isub X dX10_narrows__56 ?_
            exact k_iret X hrt hlk dX10_narrows__57 h
        · refine k_bipush X dX10_narrows__40 (by decide +kernel) ?_
          exact k_iret X hrt hlk dX10_narrows__42 h
      · refine k_bipush X dX10_narrows__30 (by decide +kernel) ?_
        exact k_iret X hrt hlk dX10_narrows__32 h
    · refine k_iconst X dX10_narrows__17 ?_
      exact k_iret X hrt hlk dX10_narrows__18 h
set_option maxHeartbeats 4000000 in
set_option maxRecDepth 100000 in
theorem ct_X10_of {l : Launch} {D : va_G} {cA : Nat → ClassId} {ad sa : Nat → Nat} (hj : kInj NM ad) (a1 : Int) (a2 : Int) (z : Hp) (Kp : Int → Prop) (h : cal_X10_of a1 a2 z Kp) : kMet l yX10_of cX10_of 3 (some .int) 2 NM kdM D cA ad sa [.ref (ad 0), kI a1, kI a2] z (kQi NM kdM D cA ad (fun v z1 => z1 = z ∧ Kp v)) := by
  unfold cal_X10_of at h
  refine k_met (cc := cX10_of) (own := RX10) (nL := 3) rfl rfl (Nat.le_of_ble_eq_true rfl) hj kltM (fun p e s m below meth c X hrt hlk => ?_)
  refine k_sub (lv' := [(0, .ref (ad 0)), (1, kI a1), (2, kI a2)]) [0, 1, 2] rfl ?_
  refine k_aload_n X dX10_of_0 0 rfl ?_
  refine k_iload_n X dX10_of_1 1 rfl ?_
  refine k_afterP (st := []) (fun H locs ls hP hS hl => k_runV (As := [kI a1]) X lk_X10_202 rfl yo_X10_isStatement rfl (kR_ok (by decide) (by decide)) (ct_X10_isStatement (kCx_j X) _ _ _ h) (by rfl) rfl (Nat.le_of_ble_eq_true rfl) dX10_of_2 hP hS hl) (fun v1 h => ?_)
  refine k_if_eq (tgt := 26) X dX10_of_5 (by decide) h (fun h => ?_) (fun h => ?_)
  · refine k_iconst X dX10_of_26 ?_
    exact k_iret X hrt hlk dX10_of_27 ⟨rfl, h⟩
  · refine k_iload_n X dX10_of_8 2 rfl ?_
    refine k_iconst X dX10_of_9 ?_
    refine k_iconst X dX10_of_10 ?_
    refine k_afterP (st := []) (fun H locs ls hP hS hl => k_runS (As := [kI a2, kI 0, kI 5]) X lk_X10_72 yo_X10_isIn rfl (kR_ok (by decide) (by decide)) (ct_X10_isIn (kCx_j X) _ _ _ _ _ h) (Nat.le_of_ble_eq_true rfl) dX10_of_11 hP hS hl) (fun v2 h => ?_)
    refine k_if_eq (tgt := 26) X dX10_of_14 (by decide) h (fun h => ?_) (fun h => ?_)
    · refine k_iconst X dX10_of_26 ?_
      exact k_iret X hrt hlk dX10_of_27 ⟨rfl, h⟩
    · refine k_aload_n X dX10_of_17 0 rfl ?_
      refine k_iload_n X dX10_of_18 1 rfl ?_
      refine k_iload_n X dX10_of_19 2 rfl ?_
      refine k_afterP (st := []) (fun H locs ls hP hS hl => k_runV (As := [kI a1, kI a2]) X lk_X10_76 rfl yo_X10_told rfl (kR_ok (by decide) (by decide)) (ct_X10_told (kCx_j X) _ _ _ _ h) (by rfl) rfl (Nat.le_of_ble_eq_true rfl) dX10_of_20 hP hS hl) (fun v3 h => ?_)
      refine k_goto (tgt := 27) X dX10_of_23 (by decide) ?_
      exact k_iret X hrt hlk dX10_of_27 ⟨rfl, h⟩
set_option maxHeartbeats 4000000 in
set_option maxRecDepth 100000 in
theorem ct_X10_order {l : Launch} {D : va_G} {cA : Nat → ClassId} {ad sa : Nat → Nat} (hj : kInj NM ad) (a1 : Int) (z : Hp) (Kp : Int → Hp → Prop) (h : cal_X10_order a1 z Kp) : kMet l yX10_order cX10_order 2 (some .int) 3 NM kdM D cA ad sa [.ref (ad 0), kI a1] z (kQi NM kdM D cA ad Kp) := by
  unfold cal_X10_order at h
  refine k_met (cc := cX10_order) (own := RX10) (nL := 2) rfl rfl (Nat.le_of_ble_eq_true rfl) hj kltM (fun p e s m below meth c X hrt hlk => ?_)
  refine k_sub (lv' := [(0, .ref (ad 0)), (1, kI a1)]) [0, 1] rfl ?_
  refine k_iload_n X dX10_order_0 1 rfl ?_
  refine k_iconst X dX10_order_1 ?_
  refine k_aload_n X dX10_order_2 0 rfl ?_
  refine k_afterI (st := [kI 0, kI a1]) (fun H locs ls hP hS hl => k_runV (As := []) X lk_X10_352 rfl yo_X10_orders rfl (kR_ok (by decide) (by decide)) (ct_X10_orders (kCx_j X)  _ _ h) (by rfl) rfl (Nat.le_of_ble_eq_true rfl) dX10_order_3 hP hS hl) (fun v2 z1 h => ?_)
  refine k_iconst X dX10_order_6 ?_
  refine k_isub X dX10_order_7 ?_
  refine k_afterP (st := []) (fun H locs ls hP hS hl => k_runS (As := [kI a1, kI 0, kI (v2 - 1)]) X lk_X10_72 yo_X10_isIn rfl (kR_ok (by decide) (by decide)) (ct_X10_isIn (kCx_j X) _ _ _ _ _ h) (Nat.le_of_ble_eq_true rfl) dX10_order_8 hP hS hl) (fun v3 h => ?_)
  refine k_if_eq (tgt := 23) X dX10_order_11 (by decide) h (fun h => ?_) (fun h => ?_)
  · refine k_iconst X dX10_order_23 ?_
    exact k_iret X hrt hlk dX10_order_24 h
  · refine k_aload_n X dX10_order_14 0 rfl ?_
    refine k_getR (t := 16) X fk_X10_57 (by rfl) (by decide) rfl dX10_order_15 ?_
    refine k_iload_n X dX10_order_18 1 rfl ?_
    refine k_iald X kzM_16 (Nat.le_of_ble_eq_true rfl) dX10_order_19 h (fun h => ?_)
    refine k_goto (tgt := 24) X dX10_order_20 (by decide) ?_
    exact k_iret X hrt hlk dX10_order_24 h
set_option maxHeartbeats 4000000 in
set_option maxRecDepth 100000 in
theorem ct_X10_paper {l : Launch} {D : va_G} {cA : Nat → ClassId} {ad sa : Nat → Nat} (hj : kInj NM ad) (a1 : Int) (z : Hp) (Kp : Int → Prop) (h : cal_X10_paper a1 z Kp) : kMet l yX10_paper cX10_paper 2 (some .int) 1 NM kdM D cA ad sa [.ref (ad 0), kI a1] z (kQi NM kdM D cA ad (fun v z1 => z1 = z ∧ Kp v)) := by
  unfold cal_X10_paper at h
  refine k_met (cc := cX10_paper) (own := RX10) (nL := 2) rfl rfl (Nat.le_of_ble_eq_true rfl) hj kltM (fun p e s m below meth c X hrt hlk => ?_)
  refine k_sub (lv' := [(0, .ref (ad 0)), (1, kI a1)]) [0, 1] rfl ?_
  refine k_iload_n X dX10_paper_0 1 rfl ?_
  refine k_iconst X dX10_paper_1 ?_
  refine k_aload_n X dX10_paper_2 0 rfl ?_
  refine k_getI X fk_X10_163 (by rfl) rfl dX10_paper_3 ?_
  refine k_iconst X dX10_paper_6 ?_
  refine k_isub X dX10_paper_7 ?_
  refine k_afterP (st := []) (fun H locs ls hP hS hl => k_runS (As := [kI a1, kI 0, kI ((z 0 7) - 1)]) X lk_X10_72 yo_X10_isIn rfl (kR_ok (by decide) (by decide)) (ct_X10_isIn (kCx_j X) _ _ _ _ _ h) (Nat.le_of_ble_eq_true rfl) dX10_paper_8 hP hS hl) (fun v1 h => ?_)
  refine k_if_eq (tgt := 23) X dX10_paper_11 (by decide) h (fun h => ?_) (fun h => ?_)
  · refine k_iconst X dX10_paper_23 ?_
    exact k_iret X hrt hlk dX10_paper_24 ⟨rfl, h⟩
  · refine k_aload_n X dX10_paper_14 0 rfl ?_
    refine k_getR (t := 4) X fk_X10_21 (by rfl) (by decide) rfl dX10_paper_15 ?_
    refine k_iload_n X dX10_paper_18 1 rfl ?_
    refine k_iald X kzM_4 (Nat.le_of_ble_eq_true rfl) dX10_paper_19 h (fun h => ?_)
    refine k_goto (tgt := 24) X dX10_paper_20 (by decide) ?_
    exact k_iret X hrt hlk dX10_paper_24 ⟨rfl, h⟩
set_option maxHeartbeats 4000000 in
set_option maxRecDepth 100000 in
theorem ct_X10_path {l : Launch} {D : va_G} {cA : Nat → ClassId} {ad sa : Nat → Nat} (hj : kInj NM ad) (a1 : Int) (a2 : Int) (a3 : Int) (z : Hp) (Kp : Int → Hp → Prop) (h : cal_X10_path a1 a2 a3 z Kp) : kMet l yX10_path cX10_path 6 (some .int) 3 NM kdM D cA ad sa [.ref (ad 0), kI a1, kI a2, kI a3] z (kQi NM kdM D cA ad Kp) := by
  unfold cal_X10_path at h
  refine k_met (cc := cX10_path) (own := RX10) (nL := 6) rfl rfl (Nat.le_of_ble_eq_true rfl) hj kltM (fun p e s m below meth c X hrt hlk => ?_)
  refine k_sub (lv' := [(0, .ref (ad 0)), (1, kI a1), (2, kI a2), (3, kI a3)]) [0, 1, 2, 3] rfl ?_
  refine k_aload_n X dX10_path_0 0 rfl ?_
  refine k_iload_n X dX10_path_1 1 rfl ?_
  refine k_iload_n X dX10_path_2 2 rfl ?_
  refine k_afterP (st := []) (fun H locs ls hP hS hl => k_runV (As := [kI a1, kI a2]) X lk_X10_268 rfl yo_X10_areTwo rfl (kR_ok (by decide) (by decide)) (ct_X10_areTwo (kCx_j X) _ _ _ _ h) (by rfl) rfl (Nat.le_of_ble_eq_true rfl) dX10_path_3 hP hS hl) (fun v1 h => ?_)
  refine k_if_ne (tgt := 11) X dX10_path_6 (by decide) h (fun h => ?_) (fun h => ?_)
  · refine k_aload_n X dX10_path_11 0 rfl ?_
    refine k_iload_n X dX10_path_12 1 rfl ?_
    refine k_iload_n X dX10_path_13 2 rfl ?_
    refine k_afterI (st := []) (fun H locs ls hP hS hl => k_runV (As := [kI a1, kI a2]) X lk_X10_271 rfl yo_X10_meets rfl (kR_ok (by decide) (by decide)) (ct_X10_meets (kCx_j X) _ _ _ _ h) (by rfl) rfl (Nat.le_of_ble_eq_true rfl) dX10_path_14 hP hS hl) (fun v3 z2 h => ?_)
    refine k_if_ne (tgt := 32) X dX10_path_17 (by decide) h (fun h => ?_) (fun h => ?_)
    · refine k_aload_n X dX10_path_32 0 rfl ?_
      refine k_aload_n X dX10_path_33 0 rfl ?_
      refine k_getR (t := 13) X fk_X10_48 (by rfl) (by decide) rfl dX10_path_34 ?_
      refine k_aload_n X dX10_path_37 0 rfl ?_
      refine k_getI X fk_X10_265 (by rfl) rfl dX10_path_38 ?_
      refine k_iald X kzM_13 (Nat.le_of_ble_eq_true rfl) dX10_path_41 h (fun h => ?_)
      refine k_aload_n X dX10_path_42 0 rfl ?_
      refine k_getR (t := 14) X fk_X10_51 (by rfl) (by decide) rfl dX10_path_43 ?_
      refine k_aload_n X dX10_path_46 0 rfl ?_
      refine k_getI X fk_X10_265 (by rfl) rfl dX10_path_47 ?_
      refine k_iald X kzM_14 (Nat.le_of_ble_eq_true rfl) dX10_path_50 h (fun h => ?_)
      refine k_iadd X dX10_path_51 ?_
      refine k_iconst X dX10_path_52 ?_
      refine k_iadd X dX10_path_53 ?_
      refine k_putI X fp_X10_344 (by rfl) rfl dX10_path_54 (k_nameH h (fun z4 h => ?_))
      refine k_iload_n X dX10_path_57 3 rfl ?_
      refine k_iconst X dX10_path_58 ?_
      refine k_icmp_lt (tgt := 70) X dX10_path_59 (by decide) ⟨h.1, ⟨by decide, by decide⟩, h.2⟩ (fun h => ?_) (fun h => ?_)
      · refine k_iconst X dX10_path_70 ?_
        exact k_iret X hrt hlk dX10_path_71 h
      · refine k_iload_n X dX10_path_62 3 rfl ?_
        refine k_aload_n X dX10_path_63 0 rfl ?_
        refine k_getI X fk_X10_344 (by rfl) rfl dX10_path_64 ?_
        refine k_icmp_lt (tgt := 72) X dX10_path_67 (by decide) h (fun h => ?_) (fun h => ?_)
        · refine k_iload_n X dX10_path_72 3 rfl ?_
          refine k_if_ge (tgt := 81) X dX10_path_73 (by decide) h (fun h => ?_) (fun h => ?_)
          · refine k_aload_n X dX10_path_81 0 rfl ?_
            refine k_getR (t := 13) X fk_X10_48 (by rfl) (by decide) rfl dX10_path_82 ?_
            refine k_aload_n X dX10_path_85 0 rfl ?_
            refine k_getI X fk_X10_265 (by rfl) rfl dX10_path_86 ?_
            refine k_iald X kzM_13 (Nat.le_of_ble_eq_true rfl) dX10_path_89 h (fun h => ?_)
            refine k_istore X dX10_path_90 h (fun v5 => [(4, kI v5), (0, .ref (ad 0)), (1, kI a1), (2, kI a2), (3, kI a3)]) (by decide) (fun _ => rfl) (fun v5 h => ?_)
            refine k_aload_n X dX10_path_92 1 rfl ?_
            refine k_getR (t := 15) X fk_X10_54 (by rfl) (by decide) rfl dX10_path_93 ?_
            refine k_iload X dX10_path_96 0 rfl ?_
            refine k_aload_n X dX10_path_98 1 rfl ?_
            refine k_getI X fk_X10_265 (by rfl) rfl dX10_path_99 ?_
            refine k_iast X kzM_15 (Nat.le_of_ble_eq_true rfl) dX10_path_102 h (fun h => k_nameH h (fun z6 h => ?_))
            refine k_iload X dX10_path_103 0 rfl ?_
            refine k_istore X dX10_path_105 h (fun v7 => [(5, kI v7), (4, kI v5), (0, .ref (ad 0)), (1, kI a1), (2, kI a2), (3, kI a3)]) (by decide) (fun _ => rfl) (fun v7 h => ?_)
            refine k_sub (lv' := [(0, .ref (ad 0)), (3, kI a3), (4, kI v5), (5, kI v7)]) [2, 5, 1, 0] rfl ?_
            refine h (fun v9 z10 => kAt p l e (kR 3) s m ([.ref (ad 0), kI a1, kI a2, kI a3] : List Value).toArray below meth c (MQ below (kQi NM kdM D cA ad Kp) ([.ref (ad 0), kI a1, kI a2, kI a3] : List Value).toArray s 0 0 (kA NM ad)) 6 NM kdM D cA ad 107 [(0, .ref (ad 0)), (3, kI a3), (4, kI v5), (5, kI v9)] [] z10) (fun v9 z10 h => ?_)
            refine k_iload X dX10_path_107 3 rfl ?_
            refine k_if_le (tgt := 142) X dX10_path_109 (by decide) h (fun h => ?_) (fun h => ?_)
            · refine k_iload X dX10_path_142 2 rfl ?_
              refine k_istore X dX10_path_144 h (fun v11 => [(5, kI v11), (0, .ref (ad 0)), (3, kI a3), (4, kI v5)]) (by decide) (fun _ => rfl) (fun v11 h => ?_)
              refine k_sub (lv' := [(0, .ref (ad 0)), (3, kI a3), (5, kI v11)]) [1, 2, 0] rfl ?_
              refine h (fun v13 z14 => kAt p l e (kR 3) s m ([.ref (ad 0), kI a1, kI a2, kI a3] : List Value).toArray below meth c (MQ below (kQi NM kdM D cA ad Kp) ([.ref (ad 0), kI a1, kI a2, kI a3] : List Value).toArray s 0 0 (kA NM ad)) 6 NM kdM D cA ad 146 [(0, .ref (ad 0)), (3, kI a3), (5, kI v13)] [] z14) (fun v13 z14 h => ?_)
              refine k_iload X dX10_path_146 2 rfl ?_
              refine k_aload_n X dX10_path_148 0 rfl ?_
              refine k_getI X fk_X10_344 (by rfl) rfl dX10_path_149 ?_
              refine k_iconst X dX10_path_152 ?_
              refine k_isub X dX10_path_153 ?_
              refine k_icmp_ge (tgt := 187) X dX10_path_154 (by decide) h (fun h => ?_) (fun h => ?_)
              · refine k_aload_n X dX10_path_187 0 rfl ?_
                refine k_getR (t := 15) X fk_X10_54 (by rfl) (by decide) rfl dX10_path_188 ?_
                refine k_iload_n X dX10_path_191 1 rfl ?_
                refine k_iald X kzM_15 (Nat.le_of_ble_eq_true rfl) dX10_path_192 h (fun h => ?_)
                exact k_iret X hrt hlk dX10_path_193 h
              · refine k_aload_n X dX10_path_157 0 rfl ?_
                refine k_getR (t := 15) X fk_X10_54 (by rfl) (by decide) rfl dX10_path_158 ?_
                refine k_iload X dX10_path_161 2 rfl ?_
                refine k_iconst X dX10_path_163 ?_
                refine k_iadd X dX10_path_164 ?_
                refine k_aload_n X dX10_path_165 0 rfl ?_
                refine k_aload_n X dX10_path_166 0 rfl ?_
                refine k_getR (t := 15) X fk_X10_54 (by rfl) (by decide) rfl dX10_path_167 ?_
                refine k_iload X dX10_path_170 2 rfl ?_
                refine k_iald X kzM_15 (Nat.le_of_ble_eq_true rfl) dX10_path_172 h (fun h => ?_)
                refine k_aload_n X dX10_path_173 0 rfl ?_
                refine k_getR (t := 14) X fk_X10_51 (by rfl) (by decide) rfl dX10_path_174 ?_
                refine k_afterP (st := [kI (v13 + 1), .ref (ad 15)]) (fun H locs ls hP hS hl => k_runV (As := [kI (z14 15 v13.toNat), .ref (ad 14)]) X lk_X10_274 rfl yo_X10_under rfl (kR_ok (by decide) (by decide)) (ct_X10_under (kCx_j X) _ 14 kzM_14 _ _ h) (by rfl) rfl (Nat.le_of_ble_eq_true rfl) dX10_path_177 hP hS hl) (fun v15 h => ?_)
                refine k_iast X kzM_15 (Nat.le_of_ble_eq_true rfl) dX10_path_180 h (fun h => k_nameH h (fun z16 h => ?_))
                refine k_iinc X dX10_path_181 2 rfl h (fun v17 => [(5, kI v17), (0, .ref (ad 0)), (3, kI a3)]) (by decide) (fun _ => rfl) (fun v17 h => ?_)
                refine k_goto (tgt := 146) X dX10_path_184 (by decide) ?_
                exact k_sub [1, 2, 0] rfl h
            · refine k_aload_n X dX10_path_112 0 rfl ?_
              refine k_getR (t := 15) X fk_X10_54 (by rfl) (by decide) rfl dX10_path_113 ?_
              refine k_iload X dX10_path_116 3 rfl ?_
              refine k_iconst X dX10_path_118 ?_
              refine k_isub X dX10_path_119 ?_
              refine k_aload_n X dX10_path_120 0 rfl ?_
              refine k_aload_n X dX10_path_121 0 rfl ?_
              refine k_getR (t := 15) X fk_X10_54 (by rfl) (by decide) rfl dX10_path_122 ?_
              refine k_iload X dX10_path_125 3 rfl ?_
              refine k_iald X kzM_15 (Nat.le_of_ble_eq_true rfl) dX10_path_127 h (fun h => ?_)
              refine k_aload_n X dX10_path_128 0 rfl ?_
              refine k_getR (t := 13) X fk_X10_48 (by rfl) (by decide) rfl dX10_path_129 ?_
              refine k_afterP (st := [kI (v9 - 1), .ref (ad 15)]) (fun H locs ls hP hS hl => k_runV (As := [kI (z10 15 v9.toNat), .ref (ad 13)]) X lk_X10_274 rfl yo_X10_under rfl (kR_ok (by decide) (by decide)) (ct_X10_under (kCx_j X) _ 13 kzM_13 _ _ h) (by rfl) rfl (Nat.le_of_ble_eq_true rfl) dX10_path_132 hP hS hl) (fun v18 h => ?_)
              refine k_iast X kzM_15 (Nat.le_of_ble_eq_true rfl) dX10_path_135 h (fun h => k_nameH h (fun z19 h => ?_))
              refine k_iinc X dX10_path_136 3 rfl h (fun v20 => [(5, kI v20), (0, .ref (ad 0)), (3, kI a3), (4, kI v5)]) (by decide) (fun _ => rfl) (fun v20 h => ?_)
              refine k_goto (tgt := 107) X dX10_path_139 (by decide) ?_
              exact k_sub [1, 2, 3, 0] rfl h
          · refine k_aload_n X dX10_path_76 0 rfl ?_
            refine k_getI X fk_X10_344 (by rfl) rfl dX10_path_77 ?_
            exact k_iret X hrt hlk dX10_path_80 h
        · refine k_iconst X dX10_path_70 ?_
          exact k_iret X hrt hlk dX10_path_71 h
    · refine k_iload_n X dX10_path_20 3 rfl ?_
      refine k_iconst X dX10_path_21 ?_
      refine k_icmp_ge (tgt := 29) X dX10_path_22 (by decide) ⟨h.1, ⟨by decide, by decide⟩, h.2⟩ (fun h => ?_) (fun h => ?_)
      · refine k_bipush X dX10_path_29 (by decide +kernel) ?_
        exact k_iret X hrt hlk dX10_path_31 h
      · refine k_iconst X dX10_path_25 ?_
        refine k_goto (tgt := 31) X dX10_path_26 (by decide) ?_
        exact k_iret X hrt hlk dX10_path_31 h
  · refine k_iconst X dX10_path_9 ?_
    exact k_iret X hrt hlk dX10_path_10 h
set_option maxHeartbeats 4000000 in
set_option maxRecDepth 100000 in
theorem ct_X10_people {l : Launch} {D : va_G} {cA : Nat → ClassId} {ad sa : Nat → Nat} (hj : kInj NM ad) (a1 : Int) (a2 : Int) (z : Hp) (Kp : Int → Hp → Prop) (h : cal_X10_people a1 a2 z Kp) : kMet l yX10_people cX10_people 6 (some .int) 3 NM kdM D cA ad sa [.ref (ad 0), kI a1, kI a2] z (kQi NM kdM D cA ad Kp) := by
  unfold cal_X10_people at h
  refine k_met (cc := cX10_people) (own := RX10) (nL := 6) rfl rfl (Nat.le_of_ble_eq_true rfl) hj kltM (fun p e s m below meth c X hrt hlk => ?_)
  refine k_sub (lv' := [(0, .ref (ad 0)), (1, kI a1), (2, kI a2)]) [0, 1, 2] rfl ?_
  refine k_aload_n X dX10_people_0 0 rfl ?_
  refine k_iload_n X dX10_people_1 1 rfl ?_
  refine k_afterP (st := []) (fun H locs ls hP hS hl => k_runV (As := [kI a1]) X lk_X10_170 rfl yo_X10_isPerson rfl (kR_ok (by decide) (by decide)) (ct_X10_isPerson (kCx_j X) _ _ _ h) (by rfl) rfl (Nat.le_of_ble_eq_true rfl) dX10_people_2 hP hS hl) (fun v1 h => ?_)
  refine k_if_ne (tgt := 10) X dX10_people_5 (by decide) h (fun h => ?_) (fun h => ?_)
  · refine k_aload_n X dX10_people_10 0 rfl ?_
    refine k_getR (t := 6) X fk_X10_27 (by rfl) (by decide) rfl dX10_people_11 ?_
    refine k_iload_n X dX10_people_14 1 rfl ?_
    refine k_iald X kzM_6 (Nat.le_of_ble_eq_true rfl) dX10_people_15 h (fun h => ?_)
    refine k_istore_n X dX10_people_16 h (fun v2 => [(3, kI v2), (0, .ref (ad 0)), (1, kI a1), (2, kI a2)]) (by decide) (fun _ => rfl) (fun v2 h => ?_)
    refine k_iconst X dX10_people_17 ?_
    refine k_istore X dX10_people_18 h (fun v3 => [(4, kI v3), (3, kI v2), (0, .ref (ad 0)), (1, kI a1), (2, kI a2)]) (by decide) (fun _ => rfl) (fun v3 h => ?_)
    refine k_iload_n X dX10_people_20 4 rfl ?_
    obtain ⟨hr21, h⟩ := h
    by_cases q22 : a2 = 0
    · rw [if_pos q22] at h
      refine k_swin (tgt := 68) X dX10_people_21 hr21 q22 (by decide) (by decide) rfl (by decide) ?_
      refine k_iload_n X dX10_people_68 1 rfl ?_
      exact k_iret X hrt hlk dX10_people_69 h
    rw [if_neg q22] at h
    by_cases q23 : a2 = 1
    · rw [if_pos q23] at h
      refine k_swin (tgt := 70) X dX10_people_21 hr21 q23 (by decide) (by decide) rfl (by decide) ?_
      refine k_iconst X dX10_people_70 ?_
      refine k_istore X dX10_people_71 h (fun v4 => [(5, kI v4), (4, kI v3), (3, kI v2), (0, .ref (ad 0)), (1, kI a1), (2, kI a2)]) (by decide) (fun _ => rfl) (fun v4 h => ?_)
      refine k_sub (lv' := [(0, .ref (ad 0)), (3, kI v2), (4, kI v3), (5, kI v4)]) [3, 2, 1, 0] rfl ?_
      refine h (fun v6 v7 => kAt p l e (kR 3) s m ([.ref (ad 0), kI a1, kI a2] : List Value).toArray below meth c (MQ below (kQi NM kdM D cA ad Kp) ([.ref (ad 0), kI a1, kI a2] : List Value).toArray s 0 0 (kA NM ad)) 6 NM kdM D cA ad 73 [(0, .ref (ad 0)), (3, kI v2), (4, kI v6), (5, kI v7)] [] z) (fun v6 v7 h => ?_)
      refine k_iload X dX10_people_73 3 rfl ?_
      refine k_aload_n X dX10_people_75 0 rfl ?_
      refine k_getR (t := 1) X fk_X10_11 (by rfl) (by decide) rfl dX10_people_76 ?_
      refine k_iconst X dX10_people_79 ?_
      refine k_iald X kzM_1 (Nat.le_of_ble_eq_true rfl) dX10_people_80 ⟨⟨by decide, by decide⟩, h⟩ (fun h => ?_)
      refine k_icmp_ge (tgt := 111) X dX10_people_81 (by decide) h (fun h => ?_) (fun h => ?_)
      · refine k_iload X dX10_people_111 2 rfl ?_
        exact k_iret X hrt hlk dX10_people_113 h
      · refine k_iload X dX10_people_84 2 rfl ?_
        refine k_aload_n X dX10_people_86 0 rfl ?_
        refine k_getR (t := 6) X fk_X10_27 (by rfl) (by decide) rfl dX10_people_87 ?_
        refine k_iload X dX10_people_90 3 rfl ?_
        refine k_iald X kzM_6 (Nat.le_of_ble_eq_true rfl) dX10_people_92 h (fun h => ?_)
        refine k_iload_n X dX10_people_93 1 rfl ?_
        refine jn_use (fun J9 => ∀ (v8 : Int), J9 v8 → kAt p l e (kR 3) s m ([.ref (ad 0), kI a1, kI a2] : List Value).toArray below meth c (MQ below (kQi NM kdM D cA ad Kp) ([.ref (ad 0), kI a1, kI a2] : List Value).toArray s 0 0 (kA NM ad)) 6 NM kdM D cA ad 105 [(0, .ref (ad 0)), (3, kI v2), (4, kI v8), (5, kI v7)] [] z) h ?_ (fun J9 hJ9 h => ?_)
        · intro v8 h
          refine k_iinc X dX10_people_105 3 rfl h (fun v10 => [(5, kI v10), (0, .ref (ad 0)), (3, kI v2), (4, kI v8)]) (by decide) (fun _ => rfl) (fun v10 h => ?_)
          refine k_goto (tgt := 73) X dX10_people_108 (by decide) ?_
          exact k_sub [1, 2, 3, 0] rfl h
        · refine k_icmp_ne (tgt := 101) X dX10_people_94 (by decide) h (fun h => ?_) (fun h => ?_)
          · refine k_iconst X dX10_people_101 ?_
            refine k_iadd X dX10_people_102 ?_
            refine k_istore X dX10_people_103 h (fun v11 => [(4, kI v11), (0, .ref (ad 0)), (3, kI v2), (5, kI v7)]) (by decide) (fun _ => rfl) (fun v11 h => ?_)
            exact k_sub [1, 2, 0, 3] rfl (hJ9 _ h)
          · refine k_iconst X dX10_people_97 ?_
            refine k_goto (tgt := 102) X dX10_people_98 (by decide) ?_
            refine k_iadd X dX10_people_102 ?_
            refine k_istore X dX10_people_103 h (fun v12 => [(4, kI v12), (0, .ref (ad 0)), (3, kI v2), (5, kI v7)]) (by decide) (fun _ => rfl) (fun v12 h => ?_)
            exact k_sub [1, 2, 0, 3] rfl (hJ9 _ h)
    rw [if_neg q23] at h
    by_cases q24 : a2 = 2
    · rw [if_pos q24] at h
      refine k_swin (tgt := 114) X dX10_people_21 hr21 q24 (by decide) (by decide) rfl (by decide) ?_
      refine k_aload_n X dX10_people_114 2 rfl ?_
      refine k_iload_n X dX10_people_115 1 rfl ?_
      refine k_afterP (st := []) (fun H locs ls hP hS hl => k_runV (As := [kI v2]) X lk_X10_107 rfl yo_X10_sexes rfl (kR_ok (by decide) (by decide)) (ct_X10_sexes (kCx_j X) _ _ _ h) (by rfl) rfl (Nat.le_of_ble_eq_true rfl) dX10_people_116 hP hS hl) (fun v13 h => ?_)
      exact k_iret X hrt hlk dX10_people_119 h
    rw [if_neg q24] at h
    by_cases q25 : a2 = 3
    · rw [if_pos q25] at h
      refine k_swin (tgt := 120) X dX10_people_21 hr21 q25 (by decide) (by decide) rfl (by decide) ?_
      refine k_aload_n X dX10_people_120 2 rfl ?_
      refine k_getR (t := 7) X fk_X10_30 (by rfl) (by decide) rfl dX10_people_121 ?_
      refine k_iload_n X dX10_people_124 1 rfl ?_
      refine k_iald X kzM_7 (Nat.le_of_ble_eq_true rfl) dX10_people_125 h (fun h => ?_)
      refine k_afterP (st := []) (fun H locs ls hP hS hl => k_runS (As := [kI (z 7 v2.toNat)]) X lk_X10_231 yo_X10_least rfl (kR_ok (by decide) (by decide)) (ct_X10_least (kCx_j X) _ _ _ h) (Nat.le_of_ble_eq_true rfl) dX10_people_126 hP hS hl) (fun v14 h => ?_)
      exact k_iret X hrt hlk dX10_people_129 h
    rw [if_neg q25] at h
    by_cases q26 : a2 = 4
    · rw [if_pos q26] at h
      refine k_swin (tgt := 130) X dX10_people_21 hr21 q26 (by decide) (by decide) rfl (by decide) ?_
      refine k_aload_n X dX10_people_130 2 rfl ?_
      refine k_getR (t := 8) X fk_X10_33 (by rfl) (by decide) rfl dX10_people_131 ?_
      refine k_iload_n X dX10_people_134 1 rfl ?_
      refine k_iald X kzM_8 (Nat.le_of_ble_eq_true rfl) dX10_people_135 h (fun h => ?_)
      refine k_afterP (st := []) (fun H locs ls hP hS hl => k_runS (As := [kI (z 8 v2.toNat)]) X lk_X10_231 yo_X10_least rfl (kR_ok (by decide) (by decide)) (ct_X10_least (kCx_j X) _ _ _ h) (Nat.le_of_ble_eq_true rfl) dX10_people_136 hP hS hl) (fun v15 h => ?_)
      exact k_iret X hrt hlk dX10_people_139 h
    rw [if_neg q26] at h
    by_cases q27 : a2 = 5
    · rw [if_pos q27] at h
      refine k_swin (tgt := 140) X dX10_people_21 hr21 q27 (by decide) (by decide) rfl (by decide) ?_
      refine k_aload_n X dX10_people_140 2 rfl ?_
      refine k_iload_n X dX10_people_141 1 rfl ?_
      refine k_afterP (st := []) (fun H locs ls hP hS hl => k_runV (As := [kI v2]) X lk_X10_234 rfl yo_X10_childrenOf rfl (kR_ok (by decide) (by decide)) (ct_X10_childrenOf (kCx_j X) _ _ _ h) (by rfl) rfl (Nat.le_of_ble_eq_true rfl) dX10_people_142 hP hS hl) (fun v16 h => ?_)
      refine k_afterP (st := []) (fun H locs ls hP hS hl => k_runS (As := [kI v16]) X lk_X10_114 yo_X10_ones rfl (kR_ok (by decide) (by decide)) (ct_X10_ones (kCx_j X) _ _ _ h) (Nat.le_of_ble_eq_true rfl) dX10_people_145 hP hS hl) (fun v17 h => ?_)
      exact k_iret X hrt hlk dX10_people_148 h
    rw [if_neg q27] at h
    by_cases q28 : a2 = 6
    · rw [if_pos q28] at h
      refine k_swin (tgt := 149) X dX10_people_21 hr21 q28 (by decide) (by decide) rfl (by decide) ?_
      refine k_aload_n X dX10_people_149 2 rfl ?_
      refine k_iload_n X dX10_people_150 1 rfl ?_
      refine k_afterP (st := []) (fun H locs ls hP hS hl => k_runV (As := [kI v2]) X lk_X10_237 rfl yo_X10_marriages rfl (kR_ok (by decide) (by decide)) (ct_X10_marriages (kCx_j X) _ _ _ h) (by rfl) rfl (Nat.le_of_ble_eq_true rfl) dX10_people_151 hP hS hl) (fun v18 h => ?_)
      exact k_iret X hrt hlk dX10_people_154 h
    rw [if_neg q28] at h
    by_cases q29 : a2 = 7
    · rw [if_pos q29] at h
      refine k_swin (tgt := 155) X dX10_people_21 hr21 q29 (by decide) (by decide) rfl (by decide) ?_
      refine k_aload_n X dX10_people_155 2 rfl ?_
      refine k_afterI (st := []) (fun H locs ls hP hS hl => k_runV (As := []) X lk_X10_240 rfl yo_X10_ages rfl (kR_ok (by decide) (by decide)) (ct_X10_ages (kCx_j X)  _ _ h) (by rfl) rfl (Nat.le_of_ble_eq_true rfl) dX10_people_156 hP hS hl) (fun v20 z19 h => ?_)
      refine k_if_eq (tgt := 171) X dX10_people_159 (by decide) h (fun h => ?_) (fun h => ?_)
      · refine k_bipush X dX10_people_171 (by decide +kernel) ?_
        exact k_iret X hrt hlk dX10_people_173 h
      · refine k_aload_n X dX10_people_162 2 rfl ?_
        refine k_getR (t := 17) X fk_X10_60 (by rfl) (by decide) rfl dX10_people_163 ?_
        refine k_iload_n X dX10_people_166 1 rfl ?_
        refine k_iald X kzM_17 (Nat.le_of_ble_eq_true rfl) dX10_people_167 h (fun h => ?_)
        refine k_goto (tgt := 173) X dX10_people_168 (by decide) ?_
        exact k_iret X hrt hlk dX10_people_173 h
    rw [if_neg q29] at h
    refine k_swout (tgt := 174) X dX10_people_21 hr21 (by omega) (by decide) ?_
    refine k_iconst X dX10_people_174 ?_
    exact k_iret X hrt hlk dX10_people_175 h
  · refine k_iconst X dX10_people_8 ?_
    exact k_iret X hrt hlk dX10_people_9 h
set_option maxHeartbeats 4000000 in
set_option maxRecDepth 100000 in
theorem ct_X10_person {l : Launch} {D : va_G} {cA : Nat → ClassId} {ad sa : Nat → Nat} (hj : kInj NM ad) (a1 : Int) (z : Hp) (Kp : Int → Hp → Prop) (h : cal_X10_person a1 z Kp) : kMet l yX10_person cX10_person 6 (some .int) 5 NM kdM D cA ad sa [.ref (ad 0), kI a1] z (kQi NM kdM D cA ad Kp) := by
  unfold cal_X10_person at h
  refine k_met (cc := cX10_person) (own := RX10) (nL := 6) rfl rfl (Nat.le_of_ble_eq_true rfl) hj kltM (fun p e s m below meth c X hrt hlk => ?_)
  refine k_sub (lv' := [(0, .ref (ad 0)), (1, kI a1)]) [0, 1] rfl ?_
  refine k_iload_n X dX10_person_0 1 rfl ?_
  refine k_iconst X dX10_person_1 ?_
  refine k_iconst X dX10_person_2 ?_
  refine k_afterP (st := []) (fun H locs ls hP hS hl => k_runS (As := [kI a1, kI 0, kI 2]) X lk_X10_72 yo_X10_isIn rfl (kR_ok (by decide) (by decide)) (ct_X10_isIn (kCx_j X) _ _ _ _ _ h) (Nat.le_of_ble_eq_true rfl) dX10_person_3 hP hS hl) (fun v1 h => ?_)
  refine k_if_ne (tgt := 11) X dX10_person_6 (by decide) h (fun h => ?_) (fun h => ?_)
  · refine k_aload_n X dX10_person_11 0 rfl ?_
    refine k_getR (t := 1) X fk_X10_11 (by rfl) (by decide) rfl dX10_person_12 ?_
    refine k_iconst X dX10_person_15 ?_
    refine k_iald X kzM_1 (Nat.le_of_ble_eq_true rfl) dX10_person_16 ⟨⟨by decide, by decide⟩, h⟩ (fun h => ?_)
    refine k_bipush X dX10_person_17 (by decide +kernel) ?_
    refine k_icmp_ne (tgt := 25) X dX10_person_19 (by decide) ⟨h.1, ⟨by decide, by decide⟩, h.2⟩ (fun h => ?_) (fun h => ?_)
    · refine k_aload_n X dX10_person_25 0 rfl ?_
      refine k_afterP (st := []) (fun H locs ls hP hS hl => k_runV (As := []) X lk_X10_166 rfl yo_X10_lettersOnTape rfl (kR_ok (by decide) (by decide)) (ct_X10_lettersOnTape (kCx_j X)  _ _ h) (by rfl) rfl (Nat.le_of_ble_eq_true rfl) dX10_person_26 hP hS hl) (fun v2 h => ?_)
      refine k_istore_n X dX10_person_29 h (fun v3 => [(2, kI v3), (0, .ref (ad 0)), (1, kI a1)]) (by decide) (fun _ => rfl) (fun v3 h => ?_)
      refine k_aload_n X dX10_person_30 1 rfl ?_
      refine k_getI X fk_X10_160 (by rfl) rfl dX10_person_31 ?_
      refine k_istore_n X dX10_person_34 h (fun v4 => [(3, kI v4), (2, kI v3), (0, .ref (ad 0)), (1, kI a1)]) (by decide) (fun _ => rfl) (fun v4 h => ?_)
      refine k_aload_n X dX10_person_35 2 rfl ?_
      refine k_iconst X dX10_person_36 ?_
      refine k_putI X fp_X10_160 (by rfl) rfl dX10_person_37 (k_nameH h (fun z5 h => ?_))
      refine k_iload_n X dX10_person_40 1 rfl ?_
      refine k_bipush X dX10_person_41 (by decide +kernel) ?_
      refine k_icmp_le (tgt := 49) X dX10_person_43 (by decide) ⟨h.1, ⟨by decide, by decide⟩, h.2⟩ (fun h => ?_) (fun h => ?_)
      · refine k_iload_n X dX10_person_49 1 rfl ?_
        refine k_if_eq (tgt := 58) X dX10_person_50 (by decide) h (fun h => ?_) (fun h => ?_)
        · refine k_bipush X dX10_person_58 (by decide +kernel) ?_
          refine k_iload_n X dX10_person_60 1 rfl ?_
          refine k_isub X dX10_person_61 ?_
          exact k_iret X hrt hlk dX10_person_62 h
        · refine k_iload_n X dX10_person_53 1 rfl ?_
          refine k_iload_n X dX10_person_54 0 rfl ?_
          refine k_icmp_ge (tgt := 63) X dX10_person_55 (by decide) h (fun h => ?_) (fun h => ?_)
          · refine k_aload_n X dX10_person_63 2 rfl ?_
            refine k_getR (t := 1) X fk_X10_11 (by rfl) (by decide) rfl dX10_person_64 ?_
            refine k_iconst X dX10_person_67 ?_
            refine k_iald X kzM_1 (Nat.le_of_ble_eq_true rfl) dX10_person_68 ⟨⟨by decide, by decide⟩, h⟩ (fun h => ?_)
            refine k_istore X dX10_person_69 h (fun v6 => [(4, kI v6), (3, kI v4), (2, kI v3), (0, .ref (ad 0)), (1, kI a1)]) (by decide) (fun _ => rfl) (fun v6 h => ?_)
            refine k_iconst X dX10_person_71 ?_
            refine k_istore X dX10_person_72 h (fun v7 => [(5, kI v7), (4, kI v6), (3, kI v4), (2, kI v3), (0, .ref (ad 0)), (1, kI a1)]) (by decide) (fun _ => rfl) (fun v7 h => ?_)
            refine k_sub (lv' := [(0, .ref (ad 0)), (1, kI a1), (2, kI v3), (4, kI v6), (5, kI v7)]) [4, 5, 3, 1, 0] rfl ?_
            refine h (fun v9 z10 => kAt p l e (kR 5) s m ([.ref (ad 0), kI a1] : List Value).toArray below meth c (MQ below (kQi NM kdM D cA ad Kp) ([.ref (ad 0), kI a1] : List Value).toArray s 0 0 (kA NM ad)) 6 NM kdM D cA ad 74 [(0, .ref (ad 0)), (1, kI a1), (2, kI v3), (4, kI v6), (5, kI v9)] [] z10) (fun v9 z10 h => ?_)
            refine k_iload X dX10_person_74 4 rfl ?_
            refine k_bipush X dX10_person_76 (by decide +kernel) ?_
            refine k_icmp_ge (tgt := 119) X dX10_person_78 (by decide) ⟨h.1, ⟨by decide, by decide⟩, h.2⟩ (fun h => ?_) (fun h => ?_)
            · refine k_aload_n X dX10_person_119 0 rfl ?_
              refine k_getR (t := 1) X fk_X10_11 (by rfl) (by decide) rfl dX10_person_120 ?_
              refine k_iconst X dX10_person_123 ?_
              refine k_bipush X dX10_person_124 (by decide +kernel) ?_
              refine k_iload X dX10_person_126 3 rfl ?_
              refine k_imul X dX10_person_128 ?_
              refine k_iadd X dX10_person_129 ?_
              refine k_bipush X dX10_person_130 (by decide +kernel) ?_
              refine k_iadd X dX10_person_132 ?_
              refine k_iload_n X dX10_person_133 1 rfl ?_
              refine k_iast X kzM_1 (Nat.le_of_ble_eq_true rfl) dX10_person_134 h (fun h => k_nameH h (fun z11 h => ?_))
              refine k_aload_n X dX10_person_135 0 rfl ?_
              refine k_getR (t := 1) X fk_X10_11 (by rfl) (by decide) rfl dX10_person_136 ?_
              refine k_iconst X dX10_person_139 ?_
              refine k_dup2 X dX10_person_140 rfl rfl ?_
              refine k_iald X kzM_1 (Nat.le_of_ble_eq_true rfl) dX10_person_141 ⟨⟨by decide, by decide⟩, h⟩ (fun h => ?_)
              refine k_iconst X dX10_person_142 ?_
              refine k_iadd X dX10_person_143 ?_
              refine k_iast X kzM_1 (Nat.le_of_ble_eq_true rfl) dX10_person_144 ⟨⟨by decide, by decide⟩, h⟩ (fun h => k_nameH h (fun z12 h => ?_))
              refine k_aload_n X dX10_person_145 0 rfl ?_
              refine k_afterV (st := []) (fun H locs ls hP hS hl => k_runV (As := []) X lk_X10_69 rfl yo_X10_works rfl (kR_ok (by decide) (by decide)) (ct_X10_works (kCx_j X)  _ _ h) (by rfl) rfl (Nat.le_of_ble_eq_true rfl) dX10_person_146 hP hS hl) (fun z13 h => ?_)
              refine k_iload X dX10_person_149 3 rfl ?_
              exact k_iret X hrt hlk dX10_person_151 h
            · refine k_aload_n X dX10_person_81 0 rfl ?_
              refine k_getR (t := 1) X fk_X10_11 (by rfl) (by decide) rfl dX10_person_82 ?_
              refine k_iconst X dX10_person_85 ?_
              refine k_bipush X dX10_person_86 (by decide +kernel) ?_
              refine k_iload X dX10_person_88 3 rfl ?_
              refine k_imul X dX10_person_90 ?_
              refine k_iadd X dX10_person_91 ?_
              refine k_iload X dX10_person_92 4 rfl ?_
              refine k_iadd X dX10_person_94 ?_
              refine k_iload X dX10_person_95 4 rfl ?_
              refine k_iload_n X dX10_person_97 2 rfl ?_
              refine jn_use (fun J14 => ∀ (z15 : Hp), J14 z15 → kAt p l e (kR 5) s m ([.ref (ad 0), kI a1] : List Value).toArray below meth c (MQ below (kQi NM kdM D cA ad Kp) ([.ref (ad 0), kI a1] : List Value).toArray s 0 0 (kA NM ad)) 6 NM kdM D cA ad 113 [(0, .ref (ad 0)), (1, kI a1), (2, kI v3), (4, kI v6), (5, kI v9)] [] z15) h ?_ (fun J14 hJ14 h => ?_)
              · intro z15 h
                refine k_iinc X dX10_person_113 4 rfl h (fun v16 => [(5, kI v16), (0, .ref (ad 0)), (1, kI a1), (2, kI v3), (4, kI v6)]) (by decide) (fun _ => rfl) (fun v16 h => ?_)
                refine k_goto (tgt := 74) X dX10_person_116 (by decide) ?_
                exact k_sub [1, 2, 3, 4, 0] rfl h
              · refine k_icmp_ge (tgt := 111) X dX10_person_98 (by decide) h (fun h => ?_) (fun h => ?_)
                · refine k_iconst X dX10_person_111 ?_
                  refine k_iast X kzM_1 (Nat.le_of_ble_eq_true rfl) dX10_person_112 h (fun h => k_nameH h (fun z17 h => ?_))
                  exact k_sub [0, 1, 2, 3, 4] rfl (hJ14 _ h)
                · refine k_aload_n X dX10_person_101 0 rfl ?_
                  refine k_getR (t := 3) X fk_X10_18 (by rfl) (by decide) rfl dX10_person_102 ?_
                  refine k_iload X dX10_person_105 4 rfl ?_
                  refine k_iald X kzM_3 (Nat.le_of_ble_eq_true rfl) dX10_person_107 h (fun h => ?_)
                  refine k_goto (tgt := 112) X dX10_person_108 (by decide) ?_
                  refine k_iast X kzM_1 (Nat.le_of_ble_eq_true rfl) dX10_person_112 h (fun h => k_nameH h (fun z18 h => ?_))
                  exact k_sub [0, 1, 2, 3, 4] rfl (hJ14 _ h)
          · refine k_bipush X dX10_person_58 (by decide +kernel) ?_
            refine k_iload_n X dX10_person_60 1 rfl ?_
            refine k_isub X dX10_person_61 ?_
            exact k_iret X hrt hlk dX10_person_62 h
      · refine k_bipush X dX10_person_46 (by decide +kernel) ?_
        exact k_iret X hrt hlk dX10_person_48 h
    · refine k_bipush X dX10_person_22 (by decide +kernel) ?_
      exact k_iret X hrt hlk dX10_person_24 h
  · refine k_iconst X dX10_person_9 ?_
    exact k_iret X hrt hlk dX10_person_10 h
set_option maxHeartbeats 4000000 in
set_option maxRecDepth 100000 in
theorem ct_X10_rests {l : Launch} {D : va_G} {cA : Nat → ClassId} {ad sa : Nat → Nat} (hj : kInj NM ad) (a1 : Int) (a2 : Int) (a3 : Int) (z : Hp) (Kp : Int → Prop) (h : cal_X10_rests a1 a2 a3 z Kp) : kMet l yX10_rests cX10_rests 6 (some .int) 1 NM kdM D cA ad sa [.ref (ad 0), kI a1, kI a2, kI a3] z (kQi NM kdM D cA ad (fun v z1 => z1 = z ∧ Kp v)) := by
  unfold cal_X10_rests at h
  refine k_met (cc := cX10_rests) (own := RX10) (nL := 6) rfl rfl (Nat.le_of_ble_eq_true rfl) hj kltM (fun p e s m below meth c X hrt hlk => ?_)
  refine k_sub (lv' := [(0, .ref (ad 0)), (1, kI a1), (2, kI a2), (3, kI a3)]) [0, 1, 2, 3] rfl ?_
  refine k_iload_n X dX10_rests_0 1 rfl ?_
  refine k_istore X dX10_rests_1 h (fun v1 => [(4, kI v1), (0, .ref (ad 0)), (1, kI a1), (2, kI a2), (3, kI a3)]) (by decide) (fun _ => rfl) (fun v1 h => ?_)
  refine k_iconst X dX10_rests_3 ?_
  refine k_istore X dX10_rests_4 h (fun v2 => [(5, kI v2), (4, kI v1), (0, .ref (ad 0)), (1, kI a1), (2, kI a2), (3, kI a3)]) (by decide) (fun _ => rfl) (fun v2 h => ?_)
  refine k_sub (lv' := [(0, .ref (ad 0)), (2, kI a2), (3, kI a3), (4, kI v1), (5, kI v2)]) [2, 4, 5, 1, 0] rfl ?_
  refine h (fun v4 v5 => kAt p l e (kR 1) s m ([.ref (ad 0), kI a1, kI a2, kI a3] : List Value).toArray below meth c (MQ below (kQi NM kdM D cA ad (fun v z1 => z1 = z ∧ Kp v)) ([.ref (ad 0), kI a1, kI a2, kI a3] : List Value).toArray s 0 0 (kA NM ad)) 6 NM kdM D cA ad 6 [(0, .ref (ad 0)), (2, kI a2), (3, kI a3), (4, kI v4), (5, kI v5)] [] z) (fun v4 v5 h => ?_)
  refine k_iload X dX10_rests_6 4 rfl ?_
  refine k_iload_n X dX10_rests_8 1 rfl ?_
  refine jn_use (fun J7 => ∀ (v6 : Int), J7 v6 → kAt p l e (kR 1) s m ([.ref (ad 0), kI a1, kI a2, kI a3] : List Value).toArray below meth c (MQ below (kQi NM kdM D cA ad (fun v z1 => z1 = z ∧ Kp v)) ([.ref (ad 0), kI a1, kI a2, kI a3] : List Value).toArray s 0 0 (kA NM ad)) 6 NM kdM D cA ad 47 [(0, .ref (ad 0)), (3, kI a3), (4, kI v6)] [] z) h ?_ (fun J7 hJ7 h => ?_)
  · intro v6 h
    refine k_iload X dX10_rests_47 2 rfl ?_
    refine k_if_lt (tgt := 62) X dX10_rests_49 (by decide) h (fun h => ?_) (fun h => ?_)
    · refine k_bipush X dX10_rests_62 (by decide +kernel) ?_
      exact k_iret X hrt hlk dX10_rests_64 ⟨rfl, h⟩
    · refine k_aload_n X dX10_rests_52 0 rfl ?_
      refine k_getR (t := 11) X fk_X10_42 (by rfl) (by decide) rfl dX10_rests_53 ?_
      refine k_iload X dX10_rests_56 2 rfl ?_
      refine k_iald X kzM_11 (Nat.le_of_ble_eq_true rfl) dX10_rests_58 h (fun h => ?_)
      refine k_if_ge (tgt := 65) X dX10_rests_59 (by decide) h (fun h => ?_) (fun h => ?_)
      · refine k_iload_n X dX10_rests_65 1 rfl ?_
        refine k_if_ne (tgt := 77) X dX10_rests_66 (by decide) h (fun h => ?_) (fun h => ?_)
        · refine k_aload_n X dX10_rests_77 0 rfl ?_
          refine k_getR (t := 12) X fk_X10_45 (by rfl) (by decide) rfl dX10_rests_78 ?_
          refine k_iload X dX10_rests_81 2 rfl ?_
          refine k_iald X kzM_12 (Nat.le_of_ble_eq_true rfl) dX10_rests_83 h (fun h => ?_)
          refine k_if_ge (tgt := 90) X dX10_rests_84 (by decide) h (fun h => ?_) (fun h => ?_)
          · refine k_iload_n X dX10_rests_90 1 rfl ?_
            refine k_iconst X dX10_rests_91 ?_
            refine k_icmp_ne (tgt := 110) X dX10_rests_92 (by decide) ⟨h.1, ⟨by decide, by decide⟩, h.2⟩ (fun h => ?_) (fun h => ?_)
            · refine k_aload_n X dX10_rests_110 0 rfl ?_
              refine k_getR (t := 12) X fk_X10_45 (by rfl) (by decide) rfl dX10_rests_111 ?_
              refine k_iload X dX10_rests_114 2 rfl ?_
              refine k_iald X kzM_12 (Nat.le_of_ble_eq_true rfl) dX10_rests_116 h (fun h => ?_)
              refine k_iconst X dX10_rests_117 ?_
              refine k_irem X dX10_rests_118 ⟨by decide, by decide⟩ h (fun h => ?_)
              exact k_iret X hrt hlk dX10_rests_119 ⟨rfl, h⟩
            · refine k_aload_n X dX10_rests_95 0 rfl ?_
              refine k_getR (t := 12) X fk_X10_45 (by rfl) (by decide) rfl dX10_rests_96 ?_
              refine k_iload X dX10_rests_99 2 rfl ?_
              refine k_iald X kzM_12 (Nat.le_of_ble_eq_true rfl) dX10_rests_101 h (fun h => ?_)
              refine k_iconst X dX10_rests_102 ?_
              refine k_idiv X dX10_rests_103 ⟨by decide, by decide⟩ h (fun h => ?_)
              refine k_afterP (st := []) (fun H locs ls hP hS hl => k_runS (As := [kI ((z 12 v6.toNat) / 2)]) X lk_X10_249 yo_X10_toldRange rfl (kR_ok (by decide) (by decide)) (ct_X10_toldRange (kCx_j X) _ _ _ h) (Nat.le_of_ble_eq_true rfl) dX10_rests_104 hP hS hl) (fun v8 h => ?_)
              refine k_goto (tgt := 119) X dX10_rests_107 (by decide) ?_
              exact k_iret X hrt hlk dX10_rests_119 ⟨rfl, h⟩
          · refine k_bipush X dX10_rests_87 (by decide +kernel) ?_
            exact k_iret X hrt hlk dX10_rests_89 ⟨rfl, h⟩
        · refine k_aload_n X dX10_rests_69 0 rfl ?_
          refine k_getR (t := 11) X fk_X10_42 (by rfl) (by decide) rfl dX10_rests_70 ?_
          refine k_iload X dX10_rests_73 2 rfl ?_
          refine k_iald X kzM_11 (Nat.le_of_ble_eq_true rfl) dX10_rests_75 h (fun h => ?_)
          exact k_iret X hrt hlk dX10_rests_76 ⟨rfl, h⟩
      · refine k_bipush X dX10_rests_62 (by decide +kernel) ?_
        exact k_iret X hrt hlk dX10_rests_64 ⟨rfl, h⟩
  · refine k_icmp_ge (tgt := 47) X dX10_rests_9 (by decide) h (fun h => ?_) (fun h => ?_)
    · exact k_sub [0, 2, 3] rfl (hJ7 _ h)
    · refine k_iload X dX10_rests_12 3 rfl ?_
      refine k_if_lt (tgt := 47) X dX10_rests_14 (by decide) h (fun h => ?_) (fun h => ?_)
      · exact k_sub [0, 2, 3] rfl (hJ7 _ h)
      · refine k_aload_n X dX10_rests_17 0 rfl ?_
        refine k_getR (t := 11) X fk_X10_42 (by rfl) (by decide) rfl dX10_rests_18 ?_
        refine k_iload X dX10_rests_21 3 rfl ?_
        refine k_iald X kzM_11 (Nat.le_of_ble_eq_true rfl) dX10_rests_23 h (fun h => ?_)
        refine jn_use (fun J10 => ∀ (v9 : Int), J10 v9 → kAt p l e (kR 1) s m ([.ref (ad 0), kI a1, kI a2, kI a3] : List Value).toArray below meth c (MQ below (kQi NM kdM D cA ad (fun v z1 => z1 = z ∧ Kp v)) ([.ref (ad 0), kI a1, kI a2, kI a3] : List Value).toArray s 0 0 (kA NM ad)) 6 NM kdM D cA ad 41 [(0, .ref (ad 0)), (2, kI a2), (3, kI a3), (4, kI v9), (5, kI v5)] [] z) h ?_ (fun J10 hJ10 h => ?_)
        · intro v9 h
          refine k_iinc X dX10_rests_41 4 rfl h (fun v11 => [(5, kI v11), (0, .ref (ad 0)), (2, kI a2), (3, kI a3), (4, kI v9)]) (by decide) (fun _ => rfl) (fun v11 h => ?_)
          refine k_goto (tgt := 6) X dX10_rests_44 (by decide) ?_
          exact k_sub [1, 2, 3, 4, 0] rfl h
        · refine k_if_ge (tgt := 32) X dX10_rests_24 (by decide) h (fun h => ?_) (fun h => ?_)
          · refine k_aload_n X dX10_rests_32 0 rfl ?_
            refine k_getR (t := 12) X fk_X10_45 (by rfl) (by decide) rfl dX10_rests_33 ?_
            refine k_iload X dX10_rests_36 3 rfl ?_
            refine k_iald X kzM_12 (Nat.le_of_ble_eq_true rfl) dX10_rests_38 h (fun h => ?_)
            refine k_istore X dX10_rests_39 h (fun v12 => [(4, kI v12), (0, .ref (ad 0)), (2, kI a2), (3, kI a3), (5, kI v5)]) (by decide) (fun _ => rfl) (fun v12 h => ?_)
            exact k_sub [1, 2, 3, 0, 4] rfl (hJ10 _ h)
          · refine k_bipush X dX10_rests_27 (by decide +kernel) ?_
            refine k_goto (tgt := 39) X dX10_rests_29 (by decide) ?_
            refine k_istore X dX10_rests_39 h (fun v13 => [(4, kI v13), (0, .ref (ad 0)), (2, kI a2), (3, kI a3), (5, kI v5)]) (by decide) (fun _ => rfl) (fun v13 h => ?_)
            exact k_sub [1, 2, 3, 0, 4] rfl (hJ10 _ h)
set_option maxHeartbeats 4000000 in
set_option maxRecDepth 100000 in
theorem ct_X10_proof {l : Launch} {D : va_G} {cA : Nat → ClassId} {ad sa : Nat → Nat} (hj : kInj NM ad) (a1 : Int) (a2 : Int) (a3 : Int) (a4 : Int) (a5 : Int) (z : Hp) (Kp : Int → Prop) (h : cal_X10_proof a1 a2 a3 a4 a5 z Kp) : kMet l yX10_proof cX10_proof 6 (some .int) 3 NM kdM D cA ad sa [.ref (ad 0), kI a1, kI a2, kI a3, kI a4, kI a5] z (kQi NM kdM D cA ad (fun v z1 => z1 = z ∧ Kp v)) := by
  unfold cal_X10_proof at h
  refine k_met (cc := cX10_proof) (own := RX10) (nL := 6) rfl rfl (Nat.le_of_ble_eq_true rfl) hj kltM (fun p e s m below meth c X hrt hlk => ?_)
  refine k_sub (lv' := [(0, .ref (ad 0)), (1, kI a1), (2, kI a2), (3, kI a3), (4, kI a4), (5, kI a5)]) [0, 1, 2, 3, 4, 5] rfl ?_
  refine k_aload_n X dX10_proof_0 0 rfl ?_
  refine k_iload_n X dX10_proof_1 1 rfl ?_
  refine k_iload_n X dX10_proof_2 2 rfl ?_
  refine k_iload_n X dX10_proof_3 3 rfl ?_
  refine k_afterP (st := []) (fun H locs ls hP hS hl => k_runV (As := [kI a1, kI a2, kI a3]) X lk_X10_243 rfl yo_X10_isEnd rfl (kR_ok (by decide) (by decide)) (ct_X10_isEnd (kCx_j X) _ _ _ _ _ h) (by rfl) rfl (Nat.le_of_ble_eq_true rfl) dX10_proof_4 hP hS hl) (fun v1 h => ?_)
  refine k_if_eq (tgt := 38) X dX10_proof_7 (by decide) h (fun h => ?_) (fun h => ?_)
  · refine k_iconst X dX10_proof_38 ?_
    exact k_iret X hrt hlk dX10_proof_39 ⟨rfl, h⟩
  · refine k_iload X dX10_proof_10 4 rfl ?_
    refine k_iload X dX10_proof_12 5 rfl ?_
    refine k_afterP (st := []) (fun H locs ls hP hS hl => k_runS (As := [kI a4, kI a5]) X lk_X10_252 yo_X10_isLink rfl (kR_ok (by decide) (by decide)) (ct_X10_isLink (kCx_j X) _ _ _ _ h) (Nat.le_of_ble_eq_true rfl) dX10_proof_14 hP hS hl) (fun v2 h => ?_)
    refine k_if_eq (tgt := 38) X dX10_proof_17 (by decide) h (fun h => ?_) (fun h => ?_)
    · refine k_iconst X dX10_proof_38 ?_
      exact k_iret X hrt hlk dX10_proof_39 ⟨rfl, h⟩
    · refine k_aload_n X dX10_proof_20 0 rfl ?_
      refine k_aload_n X dX10_proof_21 0 rfl ?_
      refine k_iload_n X dX10_proof_22 1 rfl ?_
      refine k_iload_n X dX10_proof_23 2 rfl ?_
      refine k_iload_n X dX10_proof_24 3 rfl ?_
      refine k_afterP (st := [.ref (ad 0)]) (fun H locs ls hP hS hl => k_runV (As := [kI a1, kI a2, kI a3]) X lk_X10_246 rfl yo_X10_endOf rfl (kR_ok (by decide) (by decide)) (ct_X10_endOf (kCx_j X) _ _ _ _ _ h) (by rfl) rfl (Nat.le_of_ble_eq_true rfl) dX10_proof_25 hP hS hl) (fun v3 h => ?_)
      refine k_iload X dX10_proof_28 4 rfl ?_
      refine k_iload X dX10_proof_30 5 rfl ?_
      refine k_afterP (st := []) (fun H locs ls hP hS hl => k_runV (As := [kI v3, kI a4, kI a5]) X lk_X10_255 rfl yo_X10_rests rfl (kR_ok (by decide) (by decide)) (ct_X10_rests (kCx_j X) _ _ _ _ _ h) (by rfl) rfl (Nat.le_of_ble_eq_true rfl) dX10_proof_32 hP hS hl) (fun v4 h => ?_)
      refine k_goto (tgt := 39) X dX10_proof_35 (by decide) ?_
      exact k_iret X hrt hlk dX10_proof_39 ⟨rfl, h⟩
set_option maxHeartbeats 4000000 in
set_option maxRecDepth 100000 in
theorem ct_X10_writesNumber {l : Launch} {D : va_G} {cA : Nat → ClassId} {ad sa : Nat → Nat} (hj : kInj NM ad) : ∀ (f : Nat) (a1 : Int) (z : Hp) (Kp : Hp → Prop) (h : cal_X10_writesNumber f a1 z Kp), kMet l yX10_writesNumber cX10_writesNumber 2 none f NM kdM D cA ad sa [.ref (ad 0), kI a1] z (kQv NM kdM D cA ad Kp)
  | 0, _, _, _, h => absurd h id
  | f + 1, a1, z, Kp, h => by
    refine k_met (cc := cX10_writesNumber) (own := RX10) (nL := 2) rfl rfl (Nat.le_of_ble_eq_true rfl) hj kltM (fun p e s m below meth c X hrt hlk => ?_)
    refine k_sub (lv' := [(0, .ref (ad 0)), (1, kI a1)]) [0, 1] rfl ?_
    refine k_iload_n X dX10_writesNumber_0 1 rfl ?_
    refine k_bipush X dX10_writesNumber_1 (by decide +kernel) ?_
    refine jn_use (fun J1 => ∀ (z2 : Hp), J1 z2 → kAt p l e (kR (f + 1)) s m ([.ref (ad 0), kI a1] : List Value).toArray below meth c (MQ below (kQv NM kdM D cA ad Kp) ([.ref (ad 0), kI a1] : List Value).toArray s 0 0 (kA NM ad)) 2 NM kdM D cA ad 14 [(0, .ref (ad 0)), (1, kI a1)] [] z2) h ?_ (fun J1 hJ1 h => ?_)
    · intro z2 h
      refine k_aload_n X dX10_writesNumber_14 0 rfl ?_
      refine k_bipush X dX10_writesNumber_15 (by decide +kernel) ?_
      refine k_iload_n X dX10_writesNumber_17 1 rfl ?_
      refine k_bipush X dX10_writesNumber_18 (by decide +kernel) ?_
      refine k_irem X dX10_writesNumber_20 ⟨by decide, by decide⟩ h (fun h => ?_)
      refine k_iadd X dX10_writesNumber_21 ?_
      refine k_afterV (st := []) (fun H locs ls hP hS hl => k_runV (As := [kI (48 + (a1 % 10))]) X lk_X10_208 rfl yo_X10_writes rfl (kR_ok (Nat.succ_pos _) (by decide)) (ct_X10_writes (kCx_j X) _ _ _ h) (by rfl) rfl (Nat.le_of_ble_eq_true rfl) dX10_writesNumber_22 hP hS hl) (fun z3 h => ?_)
      exact k_vret X hrt hlk dX10_writesNumber_25 h
    · refine k_icmp_le (tgt := 14) X dX10_writesNumber_3 (by decide) ⟨h.1, ⟨by decide, by decide⟩, h.2⟩ (fun h => ?_) (fun h => ?_)
      · exact k_sub [0, 1] rfl (hJ1 _ h)
      · refine k_aload_n X dX10_writesNumber_6 0 rfl ?_
        refine k_iload_n X dX10_writesNumber_7 1 rfl ?_
        refine k_bipush X dX10_writesNumber_8 (by decide +kernel) ?_
        refine k_idiv X dX10_writesNumber_10 ⟨by decide, by decide⟩ h (fun h => ?_)
        refine k_afterV (st := []) (fun H locs ls hP hS hl => k_runV (As := [kI (a1 / 10)]) X lk_X10_205 rfl yo_X10_writesNumber rfl (kR_ok (Nat.lt_succ_self _) (by decide)) (ct_X10_writesNumber (kCx_j X) f _ _ _ h) (by rfl) rfl (Nat.le_of_ble_eq_true rfl) dX10_writesNumber_11 hP hS hl) (fun z4 h => ?_)
        exact k_sub [0, 1] rfl (hJ1 _ h)
set_option maxHeartbeats 4000000 in
set_option maxRecDepth 100000 in
theorem ct_X10_prove {l : Launch} {D : va_G} {cA : Nat → ClassId} {ad sa : Nat → Nat} (hj : kInj NM ad) (a1 : Int) (a2 : Int) (a3 : Int) (z : Hp) (Kp : Int → Hp → Prop) (h : cal_X10_prove a1 a2 a3 z Kp) : kMet l yX10_prove cX10_prove 6 (some .int) 8 NM kdM D cA ad sa [.ref (ad 0), kI a1, kI a2, kI a3] z (kQi NM kdM D cA ad Kp) := by
  unfold cal_X10_prove at h
  refine k_met (cc := cX10_prove) (own := RX10) (nL := 6) rfl rfl (Nat.le_of_ble_eq_true rfl) hj kltM (fun p e s m below meth c X hrt hlk => ?_)
  refine k_sub (lv' := [(0, .ref (ad 0)), (1, kI a1), (2, kI a2), (3, kI a3)]) [0, 1, 2, 3] rfl ?_
  refine k_aload_n X dX10_prove_0 0 rfl ?_
  refine k_iload_n X dX10_prove_1 1 rfl ?_
  refine k_iload_n X dX10_prove_2 2 rfl ?_
  refine k_iload_n X dX10_prove_3 3 rfl ?_
  refine k_afterP (st := []) (fun H locs ls hP hS hl => k_runV (As := [kI a1, kI a2, kI a3]) X lk_X10_243 rfl yo_X10_isEnd rfl (kR_ok (by decide) (by decide)) (ct_X10_isEnd (kCx_j X) _ _ _ _ _ h) (by rfl) rfl (Nat.le_of_ble_eq_true rfl) dX10_prove_4 hP hS hl) (fun v1 h => ?_)
  refine k_if_ne (tgt := 12) X dX10_prove_7 (by decide) h (fun h => ?_) (fun h => ?_)
  · refine k_aload_n X dX10_prove_12 0 rfl ?_
    refine k_iconst X dX10_prove_13 ?_
    refine k_putI X fp_X10_163 (by rfl) rfl dX10_prove_14 (k_nameH h (fun z2 h => ?_))
    refine k_aload_n X dX10_prove_17 0 rfl ?_
    refine k_iload_n X dX10_prove_18 1 rfl ?_
    refine k_iload_n X dX10_prove_19 2 rfl ?_
    refine k_iload_n X dX10_prove_20 3 rfl ?_
    refine k_afterP (st := []) (fun H locs ls hP hS hl => k_runV (As := [kI a1, kI a2, kI a3]) X lk_X10_246 rfl yo_X10_endOf rfl (kR_ok (by decide) (by decide)) (ct_X10_endOf (kCx_j X) _ _ _ _ _ h) (by rfl) rfl (Nat.le_of_ble_eq_true rfl) dX10_prove_21 hP hS hl) (fun v3 h => ?_)
    refine k_istore X dX10_prove_24 h (fun v4 => [(4, kI v4), (0, .ref (ad 0)), (1, kI a1), (2, kI a2), (3, kI a3)]) (by decide) (fun _ => rfl) (fun v4 h => ?_)
    refine k_iconst X dX10_prove_26 ?_
    refine k_istore X dX10_prove_27 h (fun v5 => [(5, kI v5), (4, kI v4), (0, .ref (ad 0)), (1, kI a1), (2, kI a2), (3, kI a3)]) (by decide) (fun _ => rfl) (fun v5 h => ?_)
    refine k_sub (lv' := [(0, .ref (ad 0)), (4, kI v4), (5, kI v5)]) [2, 1, 0] rfl ?_
    refine h (fun v7 v8 z9 => kAt p l e (kR 8) s m ([.ref (ad 0), kI a1, kI a2, kI a3] : List Value).toArray below meth c (MQ below (kQi NM kdM D cA ad Kp) ([.ref (ad 0), kI a1, kI a2, kI a3] : List Value).toArray s 0 0 (kA NM ad)) 6 NM kdM D cA ad 29 [(0, .ref (ad 0)), (4, kI v7), (5, kI v8)] [] z9) (fun v7 v8 z9 h => ?_)
    refine k_iload X dX10_prove_29 2 rfl ?_
    refine k_bipush X dX10_prove_31 (by decide +kernel) ?_
    refine k_icmp_ge (tgt := 109) X dX10_prove_33 (by decide) ⟨h.1, ⟨by decide, by decide⟩, h.2⟩ (fun h => ?_) (fun h => ?_)
    · refine k_aload_n X dX10_prove_109 0 rfl ?_
      refine k_getI X fk_X10_163 (by rfl) rfl dX10_prove_110 ?_
      exact k_iret X hrt hlk dX10_prove_113 h
    · refine k_iload X dX10_prove_36 1 rfl ?_
      refine k_if_lt (tgt := 109) X dX10_prove_38 (by decide) h (fun h => ?_) (fun h => ?_)
      · refine k_aload_n X dX10_prove_109 0 rfl ?_
        refine k_getI X fk_X10_163 (by rfl) rfl dX10_prove_110 ?_
        exact k_iret X hrt hlk dX10_prove_113 h
      · refine k_aload_n X dX10_prove_41 0 rfl ?_
        refine k_getR (t := 11) X fk_X10_42 (by rfl) (by decide) rfl dX10_prove_42 ?_
        refine k_iload X dX10_prove_45 1 rfl ?_
        refine k_iald X kzM_11 (Nat.le_of_ble_eq_true rfl) dX10_prove_47 h (fun h => ?_)
        refine k_if_lt (tgt := 109) X dX10_prove_48 (by decide) h (fun h => ?_) (fun h => ?_)
        · refine k_aload_n X dX10_prove_109 0 rfl ?_
          refine k_getI X fk_X10_163 (by rfl) rfl dX10_prove_110 ?_
          exact k_iret X hrt hlk dX10_prove_113 h
        · refine k_iload X dX10_prove_51 2 rfl ?_
          refine jn_use (fun J10 => ∀ (z11 : Hp), J10 z11 → kAt p l e (kR 8) s m ([.ref (ad 0), kI a1, kI a2, kI a3] : List Value).toArray below meth c (MQ below (kQi NM kdM D cA ad Kp) ([.ref (ad 0), kI a1, kI a2, kI a3] : List Value).toArray s 0 0 (kA NM ad)) 6 NM kdM D cA ad 62 [(0, .ref (ad 0)), (4, kI v7), (5, kI v8)] [] z11) h ?_ (fun J10 hJ10 h => ?_)
          · intro z11 h
            refine k_aload_n X dX10_prove_62 0 rfl ?_
            refine k_getR (t := 11) X fk_X10_42 (by rfl) (by decide) rfl dX10_prove_63 ?_
            refine k_iload X dX10_prove_66 1 rfl ?_
            refine k_iald X kzM_11 (Nat.le_of_ble_eq_true rfl) dX10_prove_68 h (fun h => ?_)
            refine k_bipush X dX10_prove_69 (by decide +kernel) ?_
            refine jn_use (fun J12 => ∀ (z13 : Hp), J12 z13 → kAt p l e (kR 8) s m ([.ref (ad 0), kI a1, kI a2, kI a3] : List Value).toArray below meth c (MQ below (kQi NM kdM D cA ad Kp) ([.ref (ad 0), kI a1, kI a2, kI a3] : List Value).toArray s 0 0 (kA NM ad)) 6 NM kdM D cA ad 80 [(0, .ref (ad 0)), (4, kI v7), (5, kI v8)] [] z13) h ?_ (fun J12 hJ12 h => ?_)
            · intro z13 h
              refine k_aload_n X dX10_prove_80 0 rfl ?_
              refine k_aload_n X dX10_prove_81 0 rfl ?_
              refine k_getR (t := 11) X fk_X10_42 (by rfl) (by decide) rfl dX10_prove_82 ?_
              refine k_iload X dX10_prove_85 1 rfl ?_
              refine k_iald X kzM_11 (Nat.le_of_ble_eq_true rfl) dX10_prove_87 h (fun h => ?_)
              refine k_bipush X dX10_prove_88 (by decide +kernel) ?_
              refine k_irem X dX10_prove_90 ⟨by decide, by decide⟩ h (fun h => ?_)
              refine k_afterV (st := []) (fun H locs ls hP hS hl => k_runV (As := [kI ((z13 11 v7.toNat) % 100)]) X lk_X10_205 rfl yo_X10_writesNumber rfl (kR_ok (by decide) (by decide)) (ct_X10_writesNumber (kCx_j X) 6 _ _ _ h) (by rfl) rfl (Nat.le_of_ble_eq_true rfl) dX10_prove_91 hP hS hl) (fun z14 h => ?_)
              refine k_aload_n X dX10_prove_94 0 rfl ?_
              refine k_getR (t := 12) X fk_X10_45 (by rfl) (by decide) rfl dX10_prove_95 ?_
              refine k_iload X dX10_prove_98 1 rfl ?_
              refine k_iald X kzM_12 (Nat.le_of_ble_eq_true rfl) dX10_prove_100 h (fun h => ?_)
              refine k_istore X dX10_prove_101 h (fun v15 => [(4, kI v15), (0, .ref (ad 0)), (5, kI v8)]) (by decide) (fun _ => rfl) (fun v15 h => ?_)
              refine k_iinc X dX10_prove_103 2 rfl h (fun v16 => [(5, kI v16), (4, kI v15), (0, .ref (ad 0))]) (by decide) (fun _ => rfl) (fun v16 h => ?_)
              refine k_goto (tgt := 29) X dX10_prove_106 (by decide) ?_
              exact k_sub [2, 1, 0] rfl h
            · refine k_icmp_lt (tgt := 80) X dX10_prove_71 (by decide) ⟨h.1, ⟨by decide, by decide⟩, h.2⟩ (fun h => ?_) (fun h => ?_)
              · exact k_sub [0, 1, 2] rfl (hJ12 _ h)
              · refine k_aload_n X dX10_prove_74 0 rfl ?_
                refine k_bipush X dX10_prove_75 (by decide +kernel) ?_
                refine k_afterV (st := []) (fun H locs ls hP hS hl => k_runV (As := [kI 76]) X lk_X10_208 rfl yo_X10_writes rfl (kR_ok (by decide) (by decide)) (ct_X10_writes (kCx_j X) _ _ _ h) (by rfl) rfl (Nat.le_of_ble_eq_true rfl) dX10_prove_77 hP hS hl) (fun z17 h => ?_)
                exact k_sub [0, 1, 2] rfl (hJ12 _ h)
          · refine k_if_le (tgt := 62) X dX10_prove_53 (by decide) h (fun h => ?_) (fun h => ?_)
            · exact k_sub [0, 1, 2] rfl (hJ10 _ h)
            · refine k_aload_n X dX10_prove_56 0 rfl ?_
              refine k_bipush X dX10_prove_57 (by decide +kernel) ?_
              refine k_afterV (st := []) (fun H locs ls hP hS hl => k_runV (As := [kI 60]) X lk_X10_208 rfl yo_X10_writes rfl (kR_ok (by decide) (by decide)) (ct_X10_writes (kCx_j X) _ _ _ h) (by rfl) rfl (Nat.le_of_ble_eq_true rfl) dX10_prove_59 hP hS hl) (fun z18 h => ?_)
              exact k_sub [0, 1, 2] rfl (hJ10 _ h)
  · refine k_iconst X dX10_prove_10 ?_
    exact k_iret X hrt hlk dX10_prove_11 h
set_option maxHeartbeats 4000000 in
set_option maxRecDepth 100000 in
theorem ct_X10_relatives {l : Launch} {D : va_G} {cA : Nat → ClassId} {ad sa : Nat → Nat} (hj : kInj NM ad) (a1 : Int) (a2 : Int) (z : Hp) (Kp : Int → Prop) (h : cal_X10_relatives a1 a2 z Kp) : kMet l yX10_relatives cX10_relatives 6 (some .long) 3 NM kdM D cA ad sa [.ref (ad 0), kI a1, kI a2] z (kQl NM kdM D cA ad (fun v z1 => z1 = z ∧ Kp v)) := by
  unfold cal_X10_relatives at h
  refine k_met (cc := cX10_relatives) (own := RX10) (nL := 6) rfl rfl (Nat.le_of_ble_eq_true rfl) hj kltM (fun p e s m below meth c X hrt hlk => ?_)
  refine k_sub (lv' := [(0, .ref (ad 0)), (1, kI a1), (2, kI a2)]) [0, 1, 2] rfl ?_
  refine k_aload_n X dX10_relatives_0 0 rfl ?_
  refine k_iload_n X dX10_relatives_1 1 rfl ?_
  refine k_afterP (st := []) (fun H locs ls hP hS hl => k_runV (As := [kI a1]) X lk_X10_170 rfl yo_X10_isPerson rfl (kR_ok (by decide) (by decide)) (ct_X10_isPerson (kCx_j X) _ _ _ h) (by rfl) rfl (Nat.le_of_ble_eq_true rfl) dX10_relatives_2 hP hS hl) (fun v1 h => ?_)
  refine k_if_ne (tgt := 12) X dX10_relatives_5 (by decide) h (fun h => ?_) (fun h => ?_)
  · refine k_aload_n X dX10_relatives_12 0 rfl ?_
    refine k_getR (t := 6) X fk_X10_27 (by rfl) (by decide) rfl dX10_relatives_13 ?_
    refine k_iload_n X dX10_relatives_16 1 rfl ?_
    refine k_iald X kzM_6 (Nat.le_of_ble_eq_true rfl) dX10_relatives_17 h (fun h => ?_)
    refine k_istore_n X dX10_relatives_18 h (fun v2 => [(3, kI v2), (0, .ref (ad 0)), (1, kI a1), (2, kI a2)]) (by decide) (fun _ => rfl) (fun v2 h => ?_)
    refine k_iconst X dX10_relatives_19 ?_
    refine k_istore X dX10_relatives_20 h (fun v3 => [(4, kI v3), (3, kI v2), (0, .ref (ad 0)), (1, kI a1), (2, kI a2)]) (by decide) (fun _ => rfl) (fun v3 h => ?_)
    refine k_iload_n X dX10_relatives_22 4 rfl ?_
    obtain ⟨hr16, h⟩ := h
    by_cases q17 : a2 = 0
    · rw [if_pos q17] at h
      refine k_swin (tgt := 48) X dX10_relatives_23 hr16 q17 (by decide) (by decide) rfl (by decide) ?_
      refine k_aload_n X dX10_relatives_48 2 rfl ?_
      refine k_iload_n X dX10_relatives_49 1 rfl ?_
      refine k_afterP (st := []) (fun H locs ls hP hS hl => k_runV (As := [kI v2]) X lk_X10_234 rfl yo_X10_childrenOf rfl (kR_ok (by decide) (by decide)) (ct_X10_childrenOf (kCx_j X) _ _ _ h) (by rfl) rfl (Nat.le_of_ble_eq_true rfl) dX10_relatives_50 hP hS hl) (fun v4 h => ?_)
      refine k_i2l X dX10_relatives_53 h (fun h => ?_)
      exact k_lret X hrt hlk dX10_relatives_54 ⟨rfl, h⟩
    rw [if_neg q17] at h
    by_cases q18 : a2 = 1
    · rw [if_pos q18] at h
      refine k_swin (tgt := 55) X dX10_relatives_23 hr16 q18 (by decide) (by decide) rfl (by decide) ?_
      refine k_iconst X dX10_relatives_55 ?_
      refine k_istore X dX10_relatives_56 h (fun v5 => [(5, kI v5), (4, kI v3), (3, kI v2), (0, .ref (ad 0)), (1, kI a1), (2, kI a2)]) (by decide) (fun _ => rfl) (fun v5 h => ?_)
      refine k_sub (lv' := [(0, .ref (ad 0)), (3, kI v2), (4, kI v3), (5, kI v5)]) [3, 2, 1, 0] rfl ?_
      refine h (fun v7 v8 => kAt p l e (kR 3) s m ([.ref (ad 0), kI a1, kI a2] : List Value).toArray below meth c (MQ below (kQl NM kdM D cA ad (fun v z1 => z1 = z ∧ Kp v)) ([.ref (ad 0), kI a1, kI a2] : List Value).toArray s 0 0 (kA NM ad)) 6 NM kdM D cA ad 58 [(0, .ref (ad 0)), (3, kI v2), (4, kI v7), (5, kI v8)] [] z) (fun v7 v8 h => ?_)
      refine k_iload X dX10_relatives_58 3 rfl ?_
      refine k_aload_n X dX10_relatives_60 0 rfl ?_
      refine k_getR (t := 1) X fk_X10_11 (by rfl) (by decide) rfl dX10_relatives_61 ?_
      refine k_iconst X dX10_relatives_64 ?_
      refine k_iald X kzM_1 (Nat.le_of_ble_eq_true rfl) dX10_relatives_65 ⟨⟨by decide, by decide⟩, h⟩ (fun h => ?_)
      refine k_icmp_ge (tgt := 126) X dX10_relatives_66 (by decide) h (fun h => ?_) (fun h => ?_)
      · refine k_iload X dX10_relatives_126 2 rfl ?_
        refine k_i2l X dX10_relatives_128 h (fun h => ?_)
        exact k_lret X hrt hlk dX10_relatives_129 ⟨rfl, h⟩
      · refine k_iload X dX10_relatives_69 2 rfl ?_
        refine k_iload X dX10_relatives_71 3 rfl ?_
        refine k_iload_n X dX10_relatives_73 1 rfl ?_
        refine jn_use (fun J10 => ∀ (v9 : Int), J10 v9 → kAt p l e (kR 3) s m ([.ref (ad 0), kI a1, kI a2] : List Value).toArray below meth c (MQ below (kQl NM kdM D cA ad (fun v z1 => z1 = z ∧ Kp v)) ([.ref (ad 0), kI a1, kI a2] : List Value).toArray s 0 0 (kA NM ad)) 6 NM kdM D cA ad 120 [(0, .ref (ad 0)), (3, kI v2), (4, kI v9), (5, kI v8)] [] z) h ?_ (fun J10 hJ10 h => ?_)
        · intro v9 h
          refine k_iinc X dX10_relatives_120 3 rfl h (fun v11 => [(5, kI v11), (0, .ref (ad 0)), (3, kI v2), (4, kI v9)]) (by decide) (fun _ => rfl) (fun v11 h => ?_)
          refine k_goto (tgt := 58) X dX10_relatives_123 (by decide) ?_
          exact k_sub [1, 2, 3, 0] rfl h
        · refine k_icmp_eq (tgt := 116) X dX10_relatives_74 (by decide) h (fun h => ?_) (fun h => ?_)
          · refine k_iconst X dX10_relatives_116 ?_
            refine k_ior X dX10_relatives_117 ?_
            refine k_istore X dX10_relatives_118 h (fun v12 => [(4, kI v12), (0, .ref (ad 0)), (3, kI v2), (5, kI v8)]) (by decide) (fun _ => rfl) (fun v12 h => ?_)
            exact k_sub [1, 2, 0, 3] rfl (hJ10 _ h)
          · refine k_aload_n X dX10_relatives_77 0 rfl ?_
            refine k_getR (t := 7) X fk_X10_30 (by rfl) (by decide) rfl dX10_relatives_78 ?_
            refine k_iload X dX10_relatives_81 3 rfl ?_
            refine k_iald X kzM_7 (Nat.le_of_ble_eq_true rfl) dX10_relatives_83 h (fun h => ?_)
            refine k_aload_n X dX10_relatives_84 0 rfl ?_
            refine k_getR (t := 8) X fk_X10_33 (by rfl) (by decide) rfl dX10_relatives_85 ?_
            refine k_iload X dX10_relatives_88 3 rfl ?_
            refine k_iald X kzM_8 (Nat.le_of_ble_eq_true rfl) dX10_relatives_90 h (fun h => ?_)
            refine k_ior X dX10_relatives_91 ?_
            refine k_aload_n X dX10_relatives_92 0 rfl ?_
            refine k_getR (t := 7) X fk_X10_30 (by rfl) (by decide) rfl dX10_relatives_93 ?_
            refine k_iload_n X dX10_relatives_96 1 rfl ?_
            refine k_iald X kzM_7 (Nat.le_of_ble_eq_true rfl) dX10_relatives_97 h (fun h => ?_)
            refine k_aload_n X dX10_relatives_98 0 rfl ?_
            refine k_getR (t := 8) X fk_X10_33 (by rfl) (by decide) rfl dX10_relatives_99 ?_
            refine k_iload_n X dX10_relatives_102 1 rfl ?_
            refine k_iald X kzM_8 (Nat.le_of_ble_eq_true rfl) dX10_relatives_103 h (fun h => ?_)
            refine k_ior X dX10_relatives_104 ?_
            refine k_iand X dX10_relatives_105 ?_
            refine k_if_eq (tgt := 116) X dX10_relatives_106 (by decide) h (fun h => ?_) (fun h => ?_)
            · refine k_iconst X dX10_relatives_116 ?_
              refine k_ior X dX10_relatives_117 ?_
              refine k_istore X dX10_relatives_118 h (fun v13 => [(4, kI v13), (0, .ref (ad 0)), (3, kI v2), (5, kI v8)]) (by decide) (fun _ => rfl) (fun v13 h => ?_)
              exact k_sub [1, 2, 0, 3] rfl (hJ10 _ h)
            · refine k_iconst X dX10_relatives_109 ?_
              refine k_iload X dX10_relatives_110 3 rfl ?_
              refine k_ishl X dX10_relatives_112 ?_
              refine k_goto (tgt := 117) X dX10_relatives_113 (by decide) ?_
              refine k_ior X dX10_relatives_117 ?_
              refine k_istore X dX10_relatives_118 h (fun v14 => [(4, kI v14), (0, .ref (ad 0)), (3, kI v2), (5, kI v8)]) (by decide) (fun _ => rfl) (fun v14 h => ?_)
              exact k_sub [1, 2, 0, 3] rfl (hJ10 _ h)
    rw [if_neg q18] at h
    by_cases q19 : a2 = 2
    · rw [if_pos q19] at h
      refine k_swin (tgt := 130) X dX10_relatives_23 hr16 q19 (by decide) (by decide) rfl (by decide) ?_
      refine k_aload_n X dX10_relatives_130 2 rfl ?_
      refine k_iload_n X dX10_relatives_131 1 rfl ?_
      refine k_afterP (st := []) (fun H locs ls hP hS hl => k_runV (As := [kI v2]) X lk_X10_289 rfl yo_X10_marriedTo rfl (kR_ok (by decide) (by decide)) (ct_X10_marriedTo (kCx_j X) _ _ _ h) (by rfl) rfl (Nat.le_of_ble_eq_true rfl) dX10_relatives_132 hP hS hl) (fun v15 h => ?_)
      refine k_i2l X dX10_relatives_135 h (fun h => ?_)
      exact k_lret X hrt hlk dX10_relatives_136 ⟨rfl, h⟩
    rw [if_neg q19] at h
    refine k_swout (tgt := 137) X dX10_relatives_23 hr16 (by omega) (by decide) ?_
    refine k_ldc2 X (-9223372036854775808) mw1209 dX10_relatives_137 ?_
    exact k_lret X hrt hlk dX10_relatives_140 ⟨rfl, h⟩
  · refine k_ldc2 X (-9223372036854775808) mw1209 dX10_relatives_8 ?_
    exact k_lret X hrt hlk dX10_relatives_11 ⟨rfl, h⟩
set_option maxHeartbeats 4000000 in
set_option maxRecDepth 100000 in
theorem ct_X10_rounds {l : Launch} {D : va_G} {cA : Nat → ClassId} {ad sa : Nat → Nat} (hj : kInj NM ad)  (z : Hp) (Kp : Int → Prop) (h : cal_X10_rounds  z Kp) : kMet l yX10_rounds cX10_rounds 1 (some .int) 0 NM kdM D cA ad sa [.ref (ad 0)] z (kQi NM kdM D cA ad (fun v z1 => z1 = z ∧ Kp v)) := by
  unfold cal_X10_rounds at h
  refine k_met (cc := cX10_rounds) (own := RX10) (nL := 1) rfl rfl (Nat.le_of_ble_eq_true rfl) hj kltM (fun p e s m below meth c X hrt hlk => ?_)
  refine k_sub (lv' := [(0, .ref (ad 0))]) [0] rfl ?_
  refine k_aload_n X dX10_rounds_0 0 rfl ?_
  refine k_getI X fk_X10_150 (by rfl) rfl dX10_rounds_1 ?_
  exact k_iret X hrt hlk dX10_rounds_4 ⟨rfl, h⟩
set_option maxHeartbeats 4000000 in
set_option maxRecDepth 100000 in
theorem ct_X10_same {l : Launch} {D : va_G} {cA : Nat → ClassId} {ad sa : Nat → Nat} (hj : kInj NM ad) (a1 : Int) (a2 : Int) (z : Hp) (Kp : Int → Hp → Prop) (h : cal_X10_same a1 a2 z Kp) : kMet l yX10_same cX10_same 4 (some .int) 6 NM kdM D cA ad sa [.ref (ad 0), kI a1, kI a2] z (kQi NM kdM D cA ad Kp) := by
  unfold cal_X10_same at h
  refine k_met (cc := cX10_same) (own := RX10) (nL := 4) rfl rfl (Nat.le_of_ble_eq_true rfl) hj kltM (fun p e s m below meth c X hrt hlk => ?_)
  refine k_sub (lv' := [(0, .ref (ad 0)), (1, kI a1), (2, kI a2)]) [0, 1, 2] rfl ?_
  refine k_aload_n X dX10_same_0 0 rfl ?_
  refine k_iload_n X dX10_same_1 1 rfl ?_
  refine k_afterP (st := []) (fun H locs ls hP hS hl => k_runV (As := [kI a1]) X lk_X10_170 rfl yo_X10_isPerson rfl (kR_ok (by decide) (by decide)) (ct_X10_isPerson (kCx_j X) _ _ _ h) (by rfl) rfl (Nat.le_of_ble_eq_true rfl) dX10_same_2 hP hS hl) (fun v1 h => ?_)
  refine k_if_eq (tgt := 21) X dX10_same_5 (by decide) h (fun h => ?_) (fun h => ?_)
  · refine k_iconst X dX10_same_21 ?_
    exact k_iret X hrt hlk dX10_same_22 h
  · refine k_aload_n X dX10_same_8 0 rfl ?_
    refine k_iload_n X dX10_same_9 2 rfl ?_
    refine k_afterP (st := []) (fun H locs ls hP hS hl => k_runV (As := [kI a2]) X lk_X10_170 rfl yo_X10_isPerson rfl (kR_ok (by decide) (by decide)) (ct_X10_isPerson (kCx_j X) _ _ _ h) (by rfl) rfl (Nat.le_of_ble_eq_true rfl) dX10_same_10 hP hS hl) (fun v2 h => ?_)
    refine k_if_eq (tgt := 21) X dX10_same_13 (by decide) h (fun h => ?_) (fun h => ?_)
    · refine k_iconst X dX10_same_21 ?_
      exact k_iret X hrt hlk dX10_same_22 h
    · refine k_iload_n X dX10_same_16 1 rfl ?_
      refine k_iload_n X dX10_same_17 2 rfl ?_
      refine k_icmp_ne (tgt := 23) X dX10_same_18 (by decide) h (fun h => ?_) (fun h => ?_)
      · refine k_aload_n X dX10_same_23 0 rfl ?_
        refine k_getR (t := 5) X fk_X10_24 (by rfl) (by decide) rfl dX10_same_24 ?_
        refine k_iconst X dX10_same_27 ?_
        refine k_iconst X dX10_same_28 ?_
        refine k_iast X kzM_5 (Nat.le_of_ble_eq_true rfl) dX10_same_29 ⟨⟨by decide, by decide⟩, h⟩ (fun h => k_nameH h (fun z3 h => ?_))
        refine k_aload_n X dX10_same_30 0 rfl ?_
        refine k_getR (t := 5) X fk_X10_24 (by rfl) (by decide) rfl dX10_same_31 ?_
        refine k_iconst X dX10_same_34 ?_
        refine k_iload_n X dX10_same_35 1 rfl ?_
        refine k_iast X kzM_5 (Nat.le_of_ble_eq_true rfl) dX10_same_36 ⟨⟨by decide, by decide⟩, h⟩ (fun h => k_nameH h (fun z4 h => ?_))
        refine k_aload_n X dX10_same_37 0 rfl ?_
        refine k_getR (t := 5) X fk_X10_24 (by rfl) (by decide) rfl dX10_same_38 ?_
        refine k_iconst X dX10_same_41 ?_
        refine k_iload_n X dX10_same_42 2 rfl ?_
        refine k_iast X kzM_5 (Nat.le_of_ble_eq_true rfl) dX10_same_43 ⟨⟨by decide, by decide⟩, h⟩ (fun h => k_nameH h (fun z5 h => ?_))
        refine k_aload_n X dX10_same_44 0 rfl ?_
        refine k_getR (t := 5) X fk_X10_24 (by rfl) (by decide) rfl dX10_same_45 ?_
        refine k_iconst X dX10_same_48 ?_
        refine k_bipush X dX10_same_49 (by decide +kernel) ?_
        refine k_iast X kzM_5 (Nat.le_of_ble_eq_true rfl) dX10_same_51 ⟨⟨by decide, by decide⟩, h⟩ (fun h => k_nameH h (fun z6 h => ?_))
        refine k_aload_n X dX10_same_52 0 rfl ?_
        refine k_getR (t := 5) X fk_X10_24 (by rfl) (by decide) rfl dX10_same_53 ?_
        refine k_iconst X dX10_same_56 ?_
        refine k_bipush X dX10_same_57 (by decide +kernel) ?_
        refine k_iast X kzM_5 (Nat.le_of_ble_eq_true rfl) dX10_same_59 ⟨⟨by decide, by decide⟩, h⟩ (fun h => k_nameH h (fun z7 h => ?_))
        refine k_aload_n X dX10_same_60 0 rfl ?_
        refine k_iconst X dX10_same_61 ?_
        refine k_afterV (st := []) (fun H locs ls hP hS hl => k_runV (As := [kI 1]) X lk_X10_199 rfl yo_X10_comes rfl (kR_ok (by decide) (by decide)) (ct_X10_comes (kCx_j X) _ _ _ h) (by rfl) rfl (Nat.le_of_ble_eq_true rfl) dX10_same_62 hP hS hl) (fun z8 h => ?_)
        refine k_aload_n X dX10_same_65 0 rfl ?_
        refine k_getI X fk_X10_96 (by rfl) rfl dX10_same_66 ?_
        refine k_istore_n X dX10_same_69 h (fun v9 => [(3, kI v9), (0, .ref (ad 0)), (1, kI a1), (2, kI a2)]) (by decide) (fun _ => rfl) (fun v9 h => ?_)
        refine k_aload_n X dX10_same_70 1 rfl ?_
        refine k_getR (t := 1) X fk_X10_11 (by rfl) (by decide) rfl dX10_same_71 ?_
        refine k_iconst X dX10_same_74 ?_
        refine k_dup2 X dX10_same_75 rfl rfl ?_
        refine k_iald X kzM_1 (Nat.le_of_ble_eq_true rfl) dX10_same_76 ⟨⟨by decide, by decide⟩, h⟩ (fun h => ?_)
        refine k_iconst X dX10_same_77 ?_
        refine k_isub X dX10_same_78 ?_
        refine k_iast X kzM_1 (Nat.le_of_ble_eq_true rfl) dX10_same_79 ⟨⟨by decide, by decide⟩, h⟩ (fun h => k_nameH h (fun z10 h => ?_))
        refine k_aload_n X dX10_same_80 1 rfl ?_
        refine k_afterV (st := []) (fun H locs ls hP hS hl => k_runV (As := []) X lk_X10_69 rfl yo_X10_works rfl (kR_ok (by decide) (by decide)) (ct_X10_works (kCx_j X)  _ _ h) (by rfl) rfl (Nat.le_of_ble_eq_true rfl) dX10_same_81 hP hS hl) (fun z11 h => ?_)
        refine k_iload_n X dX10_same_84 0 rfl ?_
        exact k_iret X hrt hlk dX10_same_85 h
      · refine k_iconst X dX10_same_21 ?_
        exact k_iret X hrt hlk dX10_same_22 h
set_option maxHeartbeats 4000000 in
set_option maxRecDepth 100000 in
theorem ct_X10_set {l : Launch} {D : va_G} {cA : Nat → ClassId} {ad sa : Nat → Nat} (hj : kInj NM ad) (a1 : Int) (a2 : Int) (a3 : Int) (z : Hp) (Kp : Int → Hp → Prop) (h : cal_X10_set a1 a2 a3 z Kp) : kMet l yX10_set cX10_set 4 (some .int) 2 NM kdM D cA ad sa [.ref (ad 0), kI a1, kI a2, kI a3] z (kQi NM kdM D cA ad Kp) := by
  unfold cal_X10_set at h
  refine k_met (cc := cX10_set) (own := RX10) (nL := 4) rfl rfl (Nat.le_of_ble_eq_true rfl) hj kltM (fun p e s m below meth c X hrt hlk => ?_)
  refine k_sub (lv' := [(0, .ref (ad 0)), (1, kI a1), (2, kI a2), (3, kI a3)]) [0, 1, 2, 3] rfl ?_
  refine k_iload_n X dX10_set_0 1 rfl ?_
  refine k_afterP (st := []) (fun H locs ls hP hS hl => k_runS (As := [kI a1]) X lk_X10_355 yo_X10_isList rfl (kR_ok (by decide) (by decide)) (ct_X10_isList (kCx_j X) _ _ _ h) (Nat.le_of_ble_eq_true rfl) dX10_set_1 hP hS hl) (fun v1 h => ?_)
  refine k_if_ne (tgt := 9) X dX10_set_4 (by decide) h (fun h => ?_) (fun h => ?_)
  · refine k_aload_n X dX10_set_9 0 rfl ?_
    refine k_getR (t := 18) X fk_X10_63 (by rfl) (by decide) rfl dX10_set_10 ?_
    refine k_iload_n X dX10_set_13 1 rfl ?_
    refine k_iald X kzM_18 (Nat.le_of_ble_eq_true rfl) dX10_set_14 h (fun h => ?_)
    refine k_if_ge (tgt := 21) X dX10_set_15 (by decide) h (fun h => ?_) (fun h => ?_)
    · refine k_iload_n X dX10_set_21 2 rfl ?_
      refine k_iconst X dX10_set_22 ?_
      refine k_aload_n X dX10_set_23 0 rfl ?_
      refine k_getR (t := 18) X fk_X10_63 (by rfl) (by decide) rfl dX10_set_24 ?_
      refine k_iload_n X dX10_set_27 1 rfl ?_
      refine k_iald X kzM_18 (Nat.le_of_ble_eq_true rfl) dX10_set_28 h (fun h => ?_)
      refine k_iconst X dX10_set_29 ?_
      refine k_isub X dX10_set_30 ?_
      refine k_afterP (st := []) (fun H locs ls hP hS hl => k_runS (As := [kI a2, kI 0, kI ((z 18 a1.toNat) - 1)]) X lk_X10_72 yo_X10_isIn rfl (kR_ok (by decide) (by decide)) (ct_X10_isIn (kCx_j X) _ _ _ _ _ h) (Nat.le_of_ble_eq_true rfl) dX10_set_31 hP hS hl) (fun v2 h => ?_)
      refine k_if_ne (tgt := 40) X dX10_set_34 (by decide) h (fun h => ?_) (fun h => ?_)
      · refine k_aload_n X dX10_set_40 0 rfl ?_
        refine k_getR (t := 19) X fk_X10_66 (by rfl) (by decide) rfl dX10_set_41 ?_
        refine k_bipush X dX10_set_44 (by decide +kernel) ?_
        refine k_iload_n X dX10_set_46 1 rfl ?_
        refine k_imul X dX10_set_47 ?_
        refine k_iload_n X dX10_set_48 2 rfl ?_
        refine k_iadd X dX10_set_49 ?_
        refine k_iload_n X dX10_set_50 3 rfl ?_
        refine k_iast X kzM_19 (Nat.le_of_ble_eq_true rfl) dX10_set_51 h (fun h => k_nameH h (fun z3 h => ?_))
        refine k_iconst X dX10_set_52 ?_
        exact k_iret X hrt hlk dX10_set_53 h
      · refine k_bipush X dX10_set_37 (by decide +kernel) ?_
        exact k_iret X hrt hlk dX10_set_39 h
    · refine k_bipush X dX10_set_18 (by decide +kernel) ?_
      exact k_iret X hrt hlk dX10_set_20 h
  · refine k_iconst X dX10_set_7 ?_
    exact k_iret X hrt hlk dX10_set_8 h
set_option maxHeartbeats 4000000 in
set_option maxRecDepth 100000 in
theorem ct_X10_sex {l : Launch} {D : va_G} {cA : Nat → ClassId} {ad sa : Nat → Nat} (hj : kInj NM ad) (a1 : Int) (a2 : Int) (z : Hp) (Kp : Int → Hp → Prop) (h : cal_X10_sex a1 a2 z Kp) : kMet l yX10_sex cX10_sex 4 (some .int) 5 NM kdM D cA ad sa [.ref (ad 0), kI a1, kI a2] z (kQi NM kdM D cA ad Kp) := by
  unfold cal_X10_sex at h
  refine k_met (cc := cX10_sex) (own := RX10) (nL := 4) rfl rfl (Nat.le_of_ble_eq_true rfl) hj kltM (fun p e s m below meth c X hrt hlk => ?_)
  refine k_sub (lv' := [(0, .ref (ad 0)), (1, kI a1), (2, kI a2)]) [0, 1, 2] rfl ?_
  refine k_aload_n X dX10_sex_0 0 rfl ?_
  refine k_iload_n X dX10_sex_1 1 rfl ?_
  refine k_afterP (st := []) (fun H locs ls hP hS hl => k_runV (As := [kI a1]) X lk_X10_170 rfl yo_X10_isPerson rfl (kR_ok (by decide) (by decide)) (ct_X10_isPerson (kCx_j X) _ _ _ h) (by rfl) rfl (Nat.le_of_ble_eq_true rfl) dX10_sex_2 hP hS hl) (fun v1 h => ?_)
  refine k_if_eq (tgt := 17) X dX10_sex_5 (by decide) h (fun h => ?_) (fun h => ?_)
  · refine k_iconst X dX10_sex_17 ?_
    exact k_iret X hrt hlk dX10_sex_18 h
  · refine k_iload_n X dX10_sex_8 2 rfl ?_
    refine k_iconst X dX10_sex_9 ?_
    refine k_iconst X dX10_sex_10 ?_
    refine k_afterP (st := []) (fun H locs ls hP hS hl => k_runS (As := [kI a2, kI 0, kI 2]) X lk_X10_72 yo_X10_isIn rfl (kR_ok (by decide) (by decide)) (ct_X10_isIn (kCx_j X) _ _ _ _ _ h) (Nat.le_of_ble_eq_true rfl) dX10_sex_11 hP hS hl) (fun v2 h => ?_)
    refine k_if_ne (tgt := 19) X dX10_sex_14 (by decide) h (fun h => ?_) (fun h => ?_)
    · refine k_aload_n X dX10_sex_19 0 rfl ?_
      refine k_iload_n X dX10_sex_20 1 rfl ?_
      refine k_afterP (st := []) (fun H locs ls hP hS hl => k_runV (As := [kI a1]) X lk_X10_92 rfl yo_X10_sexOf rfl (kR_ok (by decide) (by decide)) (ct_X10_sexOf (kCx_j X) _ _ _ h) (by rfl) rfl (Nat.le_of_ble_eq_true rfl) dX10_sex_21 hP hS hl) (fun v3 h => ?_)
      refine k_istore_n X dX10_sex_24 h (fun v4 => [(3, kI v4), (0, .ref (ad 0)), (1, kI a1), (2, kI a2)]) (by decide) (fun _ => rfl) (fun v4 h => ?_)
      refine k_aload_n X dX10_sex_25 1 rfl ?_
      refine k_getR (t := 1) X fk_X10_11 (by rfl) (by decide) rfl dX10_sex_26 ?_
      refine k_iconst X dX10_sex_29 ?_
      refine k_bipush X dX10_sex_30 (by decide +kernel) ?_
      refine k_iload_n X dX10_sex_32 2 rfl ?_
      refine k_imul X dX10_sex_33 ?_
      refine k_iadd X dX10_sex_34 ?_
      refine k_bipush X dX10_sex_35 (by decide +kernel) ?_
      refine k_iadd X dX10_sex_37 ?_
      refine k_iload_n X dX10_sex_38 3 rfl ?_
      refine k_iast X kzM_1 (Nat.le_of_ble_eq_true rfl) dX10_sex_39 h (fun h => k_nameH h (fun z5 h => ?_))
      refine k_aload_n X dX10_sex_40 1 rfl ?_
      refine k_afterV (st := []) (fun H locs ls hP hS hl => k_runV (As := []) X lk_X10_69 rfl yo_X10_works rfl (kR_ok (by decide) (by decide)) (ct_X10_works (kCx_j X)  _ _ h) (by rfl) rfl (Nat.le_of_ble_eq_true rfl) dX10_sex_41 hP hS hl) (fun z6 h => ?_)
      refine k_iload_n X dX10_sex_44 0 rfl ?_
      exact k_iret X hrt hlk dX10_sex_45 h
    · refine k_iconst X dX10_sex_17 ?_
      exact k_iret X hrt hlk dX10_sex_18 h
set_option maxHeartbeats 4000000 in
set_option maxRecDepth 100000 in
theorem ct_X10_spell {l : Launch} {D : va_G} {cA : Nat → ClassId} {ad sa : Nat → Nat} (hj : kInj NM ad) (a1 : Int) (z : Hp) (Kp : Int → Hp → Prop) (h : cal_X10_spell a1 z Kp) : kMet l yX10_spell cX10_spell 3 (some .int) 8 NM kdM D cA ad sa [.ref (ad 0), kI a1] z (kQi NM kdM D cA ad Kp) := by
  unfold cal_X10_spell at h
  refine k_met (cc := cX10_spell) (own := RX10) (nL := 3) rfl rfl (Nat.le_of_ble_eq_true rfl) hj kltM (fun p e s m below meth c X hrt hlk => ?_)
  refine k_sub (lv' := [(0, .ref (ad 0)), (1, kI a1)]) [0, 1] rfl ?_
  refine k_aload_n X dX10_spell_0 0 rfl ?_
  refine k_iload_n X dX10_spell_1 1 rfl ?_
  refine k_afterP (st := []) (fun H locs ls hP hS hl => k_runV (As := [kI a1]) X lk_X10_202 rfl yo_X10_isStatement rfl (kR_ok (by decide) (by decide)) (ct_X10_isStatement (kCx_j X) _ _ _ h) (by rfl) rfl (Nat.le_of_ble_eq_true rfl) dX10_spell_2 hP hS hl) (fun v1 h => ?_)
  refine k_if_ne (tgt := 10) X dX10_spell_5 (by decide) h (fun h => ?_) (fun h => ?_)
  · refine k_aload_n X dX10_spell_10 0 rfl ?_
    refine k_iconst X dX10_spell_11 ?_
    refine k_putI X fp_X10_163 (by rfl) rfl dX10_spell_12 (k_nameH h (fun z2 h => ?_))
    refine k_aload_n X dX10_spell_15 0 rfl ?_
    refine k_ldcS X (k := 23) (by decide) rfl rfl dX10_spell_16 ?_
    refine k_aload_n X dX10_spell_18 0 rfl ?_
    refine k_iload_n X dX10_spell_19 1 rfl ?_
    refine k_iconst X dX10_spell_20 ?_
    refine k_afterP (st := [.ref (sa 23), .ref (ad 0)]) (fun H locs ls hP hS hl => k_runV (As := [kI a1, kI 0]) X lk_X10_76 rfl yo_X10_told rfl (kR_ok (by decide) (by decide)) (ct_X10_told (kCx_j X) _ _ _ _ h) (by rfl) rfl (Nat.le_of_ble_eq_true rfl) dX10_spell_21 hP hS hl) (fun v3 h => ?_)
    refine k_schar X lk_X10_213 (by decide) (kR_ok (by decide) (by decide)) (Nat.le_of_ble_eq_true rfl) dX10_spell_24 h (fun h => ?_)
    refine k_afterV (st := []) (fun H locs ls hP hS hl => k_runV (As := [kI ((kTx 23).getD v3.toNat 0)]) X lk_X10_208 rfl yo_X10_writes rfl (kR_ok (by decide) (by decide)) (ct_X10_writes (kCx_j X) _ _ _ h) (by rfl) rfl (Nat.le_of_ble_eq_true rfl) dX10_spell_27 hP hS hl) (fun z4 h => ?_)
    refine k_iconst X dX10_spell_30 ?_
    refine k_istore_n X dX10_spell_31 h (fun v5 => [(2, kI v5), (0, .ref (ad 0)), (1, kI a1)]) (by decide) (fun _ => rfl) (fun v5 h => ?_)
    refine k_sub (lv' := [(0, .ref (ad 0)), (1, kI a1), (2, kI v5)]) [1, 2, 0] rfl ?_
    refine h (fun v7 z8 => kAt p l e (kR 8) s m ([.ref (ad 0), kI a1] : List Value).toArray below meth c (MQ below (kQi NM kdM D cA ad Kp) ([.ref (ad 0), kI a1] : List Value).toArray s 0 0 (kA NM ad)) 3 NM kdM D cA ad 32 [(0, .ref (ad 0)), (1, kI a1), (2, kI v7)] [] z8) (fun v7 z8 h => ?_)
    refine k_iload_n X dX10_spell_32 2 rfl ?_
    refine k_iconst X dX10_spell_33 ?_
    refine k_icmp_gt (tgt := 71) X dX10_spell_34 (by decide) ⟨h.1, ⟨by decide, by decide⟩, h.2⟩ (fun h => ?_) (fun h => ?_)
    · refine k_aload_n X dX10_spell_71 0 rfl ?_
      refine k_getI X fk_X10_163 (by rfl) rfl dX10_spell_72 ?_
      exact k_iret X hrt hlk dX10_spell_75 h
    · refine k_aload_n X dX10_spell_37 0 rfl ?_
      refine k_iload_n X dX10_spell_38 1 rfl ?_
      refine k_iload_n X dX10_spell_39 2 rfl ?_
      refine k_afterP (st := []) (fun H locs ls hP hS hl => k_runV (As := [kI a1, kI v7]) X lk_X10_76 rfl yo_X10_told rfl (kR_ok (by decide) (by decide)) (ct_X10_told (kCx_j X) _ _ _ _ h) (by rfl) rfl (Nat.le_of_ble_eq_true rfl) dX10_spell_40 hP hS hl) (fun v9 h => ?_)
      refine jn_use (fun J10 => ∀ (z11 : Hp), J10 z11 → kAt p l e (kR 8) s m ([.ref (ad 0), kI a1] : List Value).toArray below meth c (MQ below (kQi NM kdM D cA ad Kp) ([.ref (ad 0), kI a1] : List Value).toArray s 0 0 (kA NM ad)) 3 NM kdM D cA ad 65 [(0, .ref (ad 0)), (1, kI a1), (2, kI v7)] [] z11) h ?_ (fun J10 hJ10 h => ?_)
      · intro z11 h
        refine k_iinc X dX10_spell_65 2 rfl h (fun v12 => [(2, kI v12), (0, .ref (ad 0)), (1, kI a1)]) (by decide) (fun _ => rfl) (fun v12 h => ?_)
        refine k_goto (tgt := 32) X dX10_spell_68 (by decide) ?_
        exact k_sub [1, 2, 0] rfl h
      · refine k_if_ge (tgt := 49) X dX10_spell_43 (by decide) h (fun h => ?_) (fun h => ?_)
        · refine k_aload_n X dX10_spell_49 0 rfl ?_
          refine k_bipush X dX10_spell_50 (by decide +kernel) ?_
          refine k_afterV (st := []) (fun H locs ls hP hS hl => k_runV (As := [kI 32]) X lk_X10_208 rfl yo_X10_writes rfl (kR_ok (by decide) (by decide)) (ct_X10_writes (kCx_j X) _ _ _ h) (by rfl) rfl (Nat.le_of_ble_eq_true rfl) dX10_spell_52 hP hS hl) (fun z13 h => ?_)
          refine k_aload_n X dX10_spell_55 0 rfl ?_
          refine k_aload_n X dX10_spell_56 0 rfl ?_
          refine k_iload_n X dX10_spell_57 1 rfl ?_
          refine k_iload_n X dX10_spell_58 2 rfl ?_
          refine k_afterP (st := [.ref (ad 0)]) (fun H locs ls hP hS hl => k_runV (As := [kI a1, kI v7]) X lk_X10_76 rfl yo_X10_told rfl (kR_ok (by decide) (by decide)) (ct_X10_told (kCx_j X) _ _ _ _ h) (by rfl) rfl (Nat.le_of_ble_eq_true rfl) dX10_spell_59 hP hS hl) (fun v14 h => ?_)
          refine k_afterV (st := []) (fun H locs ls hP hS hl => k_runV (As := [kI v14]) X lk_X10_205 rfl yo_X10_writesNumber rfl (kR_ok (by decide) (by decide)) (ct_X10_writesNumber (kCx_j X) 6 _ _ _ h) (by rfl) rfl (Nat.le_of_ble_eq_true rfl) dX10_spell_62 hP hS hl) (fun z15 h => ?_)
          exact k_sub [0, 1, 2] rfl (hJ10 _ h)
        · refine k_goto (tgt := 65) X dX10_spell_46 (by decide) ?_
          exact k_sub [0, 1, 2] rfl (hJ10 _ h)
  · refine k_iconst X dX10_spell_8 ?_
    exact k_iret X hrt hlk dX10_spell_9 h
set_option maxHeartbeats 4000000 in
set_option maxRecDepth 100000 in
theorem ct_X10_state {l : Launch} {D : va_G} {cA : Nat → ClassId} {ad sa : Nat → Nat} (hj : kInj NM ad) (a1 : Int) (z : Hp) (Kp : Int → Hp → Prop) (h : cal_X10_state a1 z Kp) : kMet l yX10_state cX10_state 2 (some .int) 6 NM kdM D cA ad sa [.ref (ad 0), kI a1] z (kQi NM kdM D cA ad Kp) := by
  unfold cal_X10_state at h
  refine k_met (cc := cX10_state) (own := RX10) (nL := 2) rfl rfl (Nat.le_of_ble_eq_true rfl) hj kltM (fun p e s m below meth c X hrt hlk => ?_)
  refine k_sub (lv' := [(0, .ref (ad 0)), (1, kI a1)]) [0, 1] rfl ?_
  refine k_iload_n X dX10_state_0 1 rfl ?_
  refine k_iconst X dX10_state_1 ?_
  refine k_iconst X dX10_state_2 ?_
  refine k_afterP (st := []) (fun H locs ls hP hS hl => k_runS (As := [kI a1, kI 0, kI 1]) X lk_X10_72 yo_X10_isIn rfl (kR_ok (by decide) (by decide)) (ct_X10_isIn (kCx_j X) _ _ _ _ _ h) (Nat.le_of_ble_eq_true rfl) dX10_state_3 hP hS hl) (fun v1 h => ?_)
  refine k_if_ne (tgt := 11) X dX10_state_6 (by decide) h (fun h => ?_) (fun h => ?_)
  · refine k_aload_n X dX10_state_11 0 rfl ?_
    refine k_getR (t := 1) X fk_X10_11 (by rfl) (by decide) rfl dX10_state_12 ?_
    refine k_iconst X dX10_state_15 ?_
    refine k_iald X kzM_1 (Nat.le_of_ble_eq_true rfl) dX10_state_16 ⟨⟨by decide, by decide⟩, h⟩ (fun h => ?_)
    refine k_bipush X dX10_state_17 (by decide +kernel) ?_
    refine k_icmp_ne (tgt := 25) X dX10_state_19 (by decide) ⟨h.1, ⟨by decide, by decide⟩, h.2⟩ (fun h => ?_) (fun h => ?_)
    · refine k_aload_n X dX10_state_25 0 rfl ?_
      refine k_afterI (st := []) (fun H locs ls hP hS hl => k_runV (As := []) X lk_X10_195 rfl yo_X10_reads rfl (kR_ok (by decide) (by decide)) (ct_X10_reads (kCx_j X)  _ _ h) (by rfl) rfl (Nat.le_of_ble_eq_true rfl) dX10_state_26 hP hS hl) (fun v3 z2 h => ?_)
      refine k_if_ne (tgt := 40) X dX10_state_29 (by decide) h (fun h => ?_) (fun h => ?_)
      · refine k_aload_n X dX10_state_40 0 rfl ?_
        refine k_iload_n X dX10_state_41 1 rfl ?_
        refine k_afterV (st := []) (fun H locs ls hP hS hl => k_runV (As := [kI a1]) X lk_X10_199 rfl yo_X10_comes rfl (kR_ok (by decide) (by decide)) (ct_X10_comes (kCx_j X) _ _ _ h) (by rfl) rfl (Nat.le_of_ble_eq_true rfl) dX10_state_42 hP hS hl) (fun z4 h => ?_)
        refine k_aload_n X dX10_state_45 0 rfl ?_
        refine k_getR (t := 1) X fk_X10_11 (by rfl) (by decide) rfl dX10_state_46 ?_
        refine k_iconst X dX10_state_49 ?_
        refine k_iald X kzM_1 (Nat.le_of_ble_eq_true rfl) dX10_state_50 ⟨⟨by decide, by decide⟩, h⟩ (fun h => ?_)
        refine k_iconst X dX10_state_51 ?_
        refine k_isub X dX10_state_52 ?_
        exact k_iret X hrt hlk dX10_state_53 h
      · refine k_bipush X dX10_state_32 (by decide +kernel) ?_
        refine k_aload_n X dX10_state_34 0 rfl ?_
        refine k_getI X fk_X10_173 (by rfl) rfl dX10_state_35 ?_
        refine k_isub X dX10_state_38 ?_
        exact k_iret X hrt hlk dX10_state_39 h
    · refine k_bipush X dX10_state_22 (by decide +kernel) ?_
      exact k_iret X hrt hlk dX10_state_24 h
  · refine k_iconst X dX10_state_9 ?_
    exact k_iret X hrt hlk dX10_state_10 h
set_option maxHeartbeats 4000000 in
set_option maxRecDepth 100000 in
theorem ct_X10_writesBy {l : Launch} {D : va_G} {cA : Nat → ClassId} {ad sa : Nat → Nat} (hj : kInj NM ad) (a1 : Int) (s2 : Nat) (hs2 : s2 < kstrL.length) (s3 : Nat) (hs3 : s3 < kstrL.length) (s4 : Nat) (hs4 : s4 < kstrL.length) (z : Hp) (Kp : Hp → Prop) (h : cal_X10_writesBy a1 s2 s3 s4 z Kp) : kMet l yX10_writesBy cX10_writesBy 5 none 6 NM kdM D cA ad sa [.ref (ad 0), kI a1, .ref (sa s2), .ref (sa s3), .ref (sa s4)] z (kQv NM kdM D cA ad Kp) := by
  unfold cal_X10_writesBy at h
  refine k_met (cc := cX10_writesBy) (own := RX10) (nL := 5) rfl rfl (Nat.le_of_ble_eq_true rfl) hj kltM (fun p e s m below meth c X hrt hlk => ?_)
  refine k_sub (lv' := [(0, .ref (ad 0)), (1, kI a1), (2, .ref (sa s2)), (3, .ref (sa s3)), (4, .ref (sa s4))]) [0, 1, 2, 3, 4] rfl ?_
  refine k_aload_n X dX10_writesBy_0 0 rfl ?_
  refine k_iload_n X dX10_writesBy_1 1 rfl ?_
  refine k_iconst X dX10_writesBy_2 ?_
  refine k_icmp_ne (tgt := 10) X dX10_writesBy_3 (by decide) ⟨h.1, ⟨by decide, by decide⟩, h.2⟩ (fun h => ?_) (fun h => ?_)
  · refine k_iload_n X dX10_writesBy_10 1 rfl ?_
    refine k_iconst X dX10_writesBy_11 ?_
    refine k_icmp_ne (tgt := 19) X dX10_writesBy_12 (by decide) ⟨h.1, ⟨by decide, by decide⟩, h.2⟩ (fun h => ?_) (fun h => ?_)
    · refine k_aload X dX10_writesBy_19 4 rfl ?_
      refine k_afterV (st := []) (fun H locs ls hP hS hl => k_runV (As := [.ref (sa s4)]) X lk_X10_284 rfl yo_X10_writes_ rfl (kR_ok (by decide) (by decide)) (ct_X10_writes_ (kCx_j X) s4 hs4 _ _ h) (by rfl) rfl (Nat.le_of_ble_eq_true rfl) dX10_writesBy_21 hP hS hl) (fun z1 h => ?_)
      exact k_vret X hrt hlk dX10_writesBy_24 h
    · refine k_aload_n X dX10_writesBy_15 3 rfl ?_
      refine k_goto (tgt := 21) X dX10_writesBy_16 (by decide) ?_
      refine k_afterV (st := []) (fun H locs ls hP hS hl => k_runV (As := [.ref (sa s3)]) X lk_X10_284 rfl yo_X10_writes_ rfl (kR_ok (by decide) (by decide)) (ct_X10_writes_ (kCx_j X) s3 hs3 _ _ h) (by rfl) rfl (Nat.le_of_ble_eq_true rfl) dX10_writesBy_21 hP hS hl) (fun z2 h => ?_)
      exact k_vret X hrt hlk dX10_writesBy_24 h
  · refine k_aload_n X dX10_writesBy_6 2 rfl ?_
    refine k_goto (tgt := 21) X dX10_writesBy_7 (by decide) ?_
    refine k_afterV (st := []) (fun H locs ls hP hS hl => k_runV (As := [.ref (sa s2)]) X lk_X10_284 rfl yo_X10_writes_ rfl (kR_ok (by decide) (by decide)) (ct_X10_writes_ (kCx_j X) s2 hs2 _ _ h) (by rfl) rfl (Nat.le_of_ble_eq_true rfl) dX10_writesBy_21 hP hS hl) (fun z3 h => ?_)
    exact k_vret X hrt hlk dX10_writesBy_24 h
set_option maxHeartbeats 4000000 in
set_option maxRecDepth 100000 in
theorem ct_X10_title {l : Launch} {D : va_G} {cA : Nat → ClassId} {ad sa : Nat → Nat} (hj : kInj NM ad) (a1 : Int) (a2 : Int) (z : Hp) (Kp : Int → Hp → Prop) (h : cal_X10_title a1 a2 z Kp) : kMet l yX10_title cX10_title 6 (some .int) 8 NM kdM D cA ad sa [.ref (ad 0), kI a1, kI a2] z (kQi NM kdM D cA ad Kp) := by
  unfold cal_X10_title at h
  refine k_met (cc := cX10_title) (own := RX10) (nL := 6) rfl rfl (Nat.le_of_ble_eq_true rfl) hj kltM (fun p e s m below meth c X hrt hlk => ?_)
  refine k_sub (lv' := [(0, .ref (ad 0)), (1, kI a1), (2, kI a2)]) [0, 1, 2] rfl ?_
  refine k_aload_n X dX10_title_0 0 rfl ?_
  refine k_iload_n X dX10_title_1 1 rfl ?_
  refine k_iload_n X dX10_title_2 2 rfl ?_
  refine k_afterP (st := []) (fun H locs ls hP hS hl => k_runV (As := [kI a1, kI a2]) X lk_X10_268 rfl yo_X10_areTwo rfl (kR_ok (by decide) (by decide)) (ct_X10_areTwo (kCx_j X) _ _ _ _ h) (by rfl) rfl (Nat.le_of_ble_eq_true rfl) dX10_title_3 hP hS hl) (fun v1 h => ?_)
  refine k_if_ne (tgt := 11) X dX10_title_6 (by decide) h (fun h => ?_) (fun h => ?_)
  · refine k_aload_n X dX10_title_11 0 rfl ?_
    refine k_iconst X dX10_title_12 ?_
    refine k_putI X fp_X10_163 (by rfl) rfl dX10_title_13 (k_nameH h (fun z2 h => ?_))
    refine k_aload_n X dX10_title_16 0 rfl ?_
    refine k_aload_n X dX10_title_17 0 rfl ?_
    refine k_getR (t := 6) X fk_X10_27 (by rfl) (by decide) rfl dX10_title_18 ?_
    refine k_iload_n X dX10_title_21 2 rfl ?_
    refine k_iald X kzM_6 (Nat.le_of_ble_eq_true rfl) dX10_title_22 h (fun h => ?_)
    refine k_afterP (st := []) (fun H locs ls hP hS hl => k_runV (As := [kI (z2 6 a2.toNat)]) X lk_X10_107 rfl yo_X10_sexes rfl (kR_ok (by decide) (by decide)) (ct_X10_sexes (kCx_j X) _ _ _ h) (by rfl) rfl (Nat.le_of_ble_eq_true rfl) dX10_title_23 hP hS hl) (fun v3 h => ?_)
    refine k_istore_n X dX10_title_26 h (fun v4 => [(3, kI v4), (0, .ref (ad 0)), (1, kI a1), (2, kI a2)]) (by decide) (fun _ => rfl) (fun v4 h => ?_)
    refine k_aload_n X dX10_title_27 1 rfl ?_
    refine k_iload_n X dX10_title_28 2 rfl ?_
    refine k_iload_n X dX10_title_29 3 rfl ?_
    refine k_afterI (st := []) (fun H locs ls hP hS hl => k_runV (As := [kI a1, kI a2]) X lk_X10_271 rfl yo_X10_meets rfl (kR_ok (by decide) (by decide)) (ct_X10_meets (kCx_j X) _ _ _ _ h) (by rfl) rfl (Nat.le_of_ble_eq_true rfl) dX10_title_30 hP hS hl) (fun v6 z5 h => ?_)
    refine k_if_ne (tgt := 87) X dX10_title_33 (by decide) h (fun h => ?_) (fun h => ?_)
    · refine k_aload_n X dX10_title_87 1 rfl ?_
      refine k_getR (t := 13) X fk_X10_48 (by rfl) (by decide) rfl dX10_title_88 ?_
      refine k_aload_n X dX10_title_91 1 rfl ?_
      refine k_getI X fk_X10_265 (by rfl) rfl dX10_title_92 ?_
      refine k_iald X kzM_13 (Nat.le_of_ble_eq_true rfl) dX10_title_95 h (fun h => ?_)
      refine k_istore X dX10_title_96 h (fun v7 => [(4, kI v7), (3, kI v4), (0, .ref (ad 0)), (1, kI a1), (2, kI a2)]) (by decide) (fun _ => rfl) (fun v7 h => ?_)
      refine k_aload_n X dX10_title_98 2 rfl ?_
      refine k_getR (t := 14) X fk_X10_51 (by rfl) (by decide) rfl dX10_title_99 ?_
      refine k_aload_n X dX10_title_102 2 rfl ?_
      refine k_getI X fk_X10_265 (by rfl) rfl dX10_title_103 ?_
      refine k_iald X kzM_14 (Nat.le_of_ble_eq_true rfl) dX10_title_106 h (fun h => ?_)
      refine k_istore X dX10_title_107 h (fun v8 => [(5, kI v8), (4, kI v7), (3, kI v4), (0, .ref (ad 0)), (1, kI a1), (2, kI a2)]) (by decide) (fun _ => rfl) (fun v8 h => ?_)
      refine k_aload_n X dX10_title_109 3 rfl ?_
      refine k_afterP (st := []) (fun H locs ls hP hS hl => k_runV (As := []) X lk_X10_278 rfl yo_X10_isHalf rfl (kR_ok (by decide) (by decide)) (ct_X10_isHalf (kCx_j X)  _ _ h) (by rfl) rfl (Nat.le_of_ble_eq_true rfl) dX10_title_110 hP hS hl) (fun v9 h => ?_)
      refine jn_use (fun J10 => ∀ (z11 : Hp), J10 z11 → kAt p l e (kR 8) s m ([.ref (ad 0), kI a1, kI a2] : List Value).toArray below meth c (MQ below (kQi NM kdM D cA ad Kp) ([.ref (ad 0), kI a1, kI a2] : List Value).toArray s 0 0 (kA NM ad)) 6 NM kdM D cA ad 123 [(0, .ref (ad 0)), (3, kI v4), (4, kI v7), (5, kI v8)] [] z11) h ?_ (fun J10 hJ10 h => ?_)
      · intro z11 h
        refine k_iload X dX10_title_123 2 rfl ?_
        refine jn_use (fun J12 => ∀ (z13 : Hp), J12 z13 → kAt p l e (kR 8) s m ([.ref (ad 0), kI a1, kI a2] : List Value).toArray below meth c (MQ below (kQi NM kdM D cA ad Kp) ([.ref (ad 0), kI a1, kI a2] : List Value).toArray s 0 0 (kA NM ad)) 6 NM kdM D cA ad 143 [(0, .ref (ad 0)), (3, kI v4), (4, kI v7), (5, kI v8)] [] z13) h ?_ (fun J12 hJ12 h => ?_)
        · intro z13 h
          refine k_iload X dX10_title_143 2 rfl ?_
          refine k_if_ne (tgt := 173) X dX10_title_145 (by decide) h (fun h => ?_) (fun h => ?_)
          · refine k_iload X dX10_title_173 3 rfl ?_
            refine k_if_ne (tgt := 203) X dX10_title_175 (by decide) h (fun h => ?_) (fun h => ?_)
            · refine k_iload X dX10_title_203 2 rfl ?_
              refine k_iconst X dX10_title_205 ?_
              refine jn_use (fun J14 => ∀ (z15 : Hp), J14 z15 → kAt p l e (kR 8) s m ([.ref (ad 0), kI a1, kI a2] : List Value).toArray below meth c (MQ below (kQi NM kdM D cA ad Kp) ([.ref (ad 0), kI a1, kI a2] : List Value).toArray s 0 0 (kA NM ad)) 6 NM kdM D cA ad 232 [(0, .ref (ad 0)), (3, kI v4), (4, kI v7), (5, kI v8)] [] z15) h ?_ (fun J14 hJ14 h => ?_)
              · intro z15 h
                refine k_iload X dX10_title_232 2 rfl ?_
                refine k_iconst X dX10_title_234 ?_
                refine k_icmp_ne (tgt := 263) X dX10_title_235 (by decide) ⟨h.1, ⟨by decide, by decide⟩, h.2⟩ (fun h => ?_) (fun h => ?_)
                · refine k_iload X dX10_title_263 3 rfl ?_
                  refine k_iconst X dX10_title_265 ?_
                  refine k_icmp_ne (tgt := 294) X dX10_title_266 (by decide) ⟨h.1, ⟨by decide, by decide⟩, h.2⟩ (fun h => ?_) (fun h => ?_)
                  · refine k_aload_n X dX10_title_294 0 rfl ?_
                    refine k_ldcSw X (k := 46) (by decide) rfl rfl dX10_title_295 ?_
                    refine k_afterV (st := []) (fun H locs ls hP hS hl => k_runV (As := [.ref (sa 46)]) X lk_X10_284 rfl yo_X10_writes_ rfl (kR_ok (by decide) (by decide)) (ct_X10_writes_ (kCx_j X) 46 (by decide) _ _ h) (by rfl) rfl (Nat.le_of_ble_eq_true rfl) dX10_title_298 hP hS hl) (fun z16 h => ?_)
                    refine k_aload_n X dX10_title_301 0 rfl ?_
                    refine k_iload X dX10_title_302 2 rfl ?_
                    refine k_iload X dX10_title_304 3 rfl ?_
                    refine k_mmin X mw876 mw450 mw11 mw451 (kR_one (by decide)) (Nat.le_of_ble_eq_true rfl) dX10_title_306 h (fun h => ?_)
                    refine k_iconst X dX10_title_309 ?_
                    refine k_isub X dX10_title_310 ?_
                    refine k_afterV (st := []) (fun H locs ls hP hS hl => k_runV (As := [kI ((if v8 < v7 then v8 else v7) - 1)]) X lk_X10_205 rfl yo_X10_writesNumber rfl (kR_ok (by decide) (by decide)) (ct_X10_writesNumber (kCx_j X) 6 _ _ _ h) (by rfl) rfl (Nat.le_of_ble_eq_true rfl) dX10_title_311 hP hS hl) (fun z17 h => ?_)
                    refine k_iload X dX10_title_314 2 rfl ?_
                    refine k_iload X dX10_title_316 3 rfl ?_
                    refine k_icmp_eq (tgt := 339) X dX10_title_318 (by decide) h (fun h => ?_) (fun h => ?_)
                    · refine k_aload_n X dX10_title_339 0 rfl ?_
                      refine k_getI X fk_X10_163 (by rfl) rfl dX10_title_340 ?_
                      exact k_iret X hrt hlk dX10_title_343 h
                    · refine k_aload_n X dX10_title_321 0 rfl ?_
                      refine k_bipush X dX10_title_322 (by decide +kernel) ?_
                      refine k_afterV (st := []) (fun H locs ls hP hS hl => k_runV (As := [kI 47]) X lk_X10_208 rfl yo_X10_writes rfl (kR_ok (by decide) (by decide)) (ct_X10_writes (kCx_j X) _ _ _ h) (by rfl) rfl (Nat.le_of_ble_eq_true rfl) dX10_title_324 hP hS hl) (fun z18 h => ?_)
                      refine k_aload_n X dX10_title_327 0 rfl ?_
                      refine k_iload X dX10_title_328 2 rfl ?_
                      refine k_iload X dX10_title_330 3 rfl ?_
                      refine k_isub X dX10_title_332 ?_
                      refine k_mabs X mw1200 mw755 mw11 mw756 (kR_one (by decide)) (Nat.le_of_ble_eq_true rfl) dX10_title_333 h (fun h => ?_)
                      refine k_afterV (st := []) (fun H locs ls hP hS hl => k_runV (As := [kI (if 0 ≤ (v7 - v8) then (v7 - v8) else 0 - (v7 - v8))]) X lk_X10_205 rfl yo_X10_writesNumber rfl (kR_ok (by decide) (by decide)) (ct_X10_writesNumber (kCx_j X) 6 _ _ _ h) (by rfl) rfl (Nat.le_of_ble_eq_true rfl) dX10_title_336 hP hS hl) (fun z19 h => ?_)
                      refine k_aload_n X dX10_title_339 0 rfl ?_
                      refine k_getI X fk_X10_163 (by rfl) rfl dX10_title_340 ?_
                      exact k_iret X hrt hlk dX10_title_343 h
                  · refine k_aload_n X dX10_title_269 0 rfl ?_
                    refine k_iload X dX10_title_270 2 rfl ?_
                    refine k_iconst X dX10_title_272 ?_
                    refine k_isub X dX10_title_273 ?_
                    refine k_afterV (st := []) (fun H locs ls hP hS hl => k_runV (As := [kI (v7 - 2)]) X lk_X10_308 rfl yo_X10_grands rfl (kR_ok (by decide) (by decide)) (ct_X10_grands (kCx_j X) _ _ _ h) (by rfl) rfl (Nat.le_of_ble_eq_true rfl) dX10_title_274 hP hS hl) (fun z20 h => ?_)
                    refine k_aload_n X dX10_title_277 0 rfl ?_
                    refine k_iload_n X dX10_title_278 1 rfl ?_
                    refine k_ldcSw X (k := 43) (by decide) rfl rfl dX10_title_279 ?_
                    refine k_ldcSw X (k := 44) (by decide) rfl rfl dX10_title_282 ?_
                    refine k_ldcSw X (k := 45) (by decide) rfl rfl dX10_title_285 ?_
                    refine k_afterV (st := []) (fun H locs ls hP hS hl => k_runV (As := [kI v4, .ref (sa 43), .ref (sa 44), .ref (sa 45)]) X lk_X10_298 rfl yo_X10_writesBy rfl (kR_ok (by decide) (by decide)) (ct_X10_writesBy (kCx_j X) _ 43 (by decide) 44 (by decide) 45 (by decide) _ _ h) (by rfl) rfl (Nat.le_of_ble_eq_true rfl) dX10_title_288 hP hS hl) (fun z21 h => ?_)
                    refine k_goto (tgt := 339) X dX10_title_291 (by decide) ?_
                    refine k_aload_n X dX10_title_339 0 rfl ?_
                    refine k_getI X fk_X10_163 (by rfl) rfl dX10_title_340 ?_
                    exact k_iret X hrt hlk dX10_title_343 h
                · refine k_aload_n X dX10_title_238 0 rfl ?_
                  refine k_iload X dX10_title_239 3 rfl ?_
                  refine k_iconst X dX10_title_241 ?_
                  refine k_isub X dX10_title_242 ?_
                  refine k_afterV (st := []) (fun H locs ls hP hS hl => k_runV (As := [kI (v8 - 2)]) X lk_X10_308 rfl yo_X10_grands rfl (kR_ok (by decide) (by decide)) (ct_X10_grands (kCx_j X) _ _ _ h) (by rfl) rfl (Nat.le_of_ble_eq_true rfl) dX10_title_243 hP hS hl) (fun z22 h => ?_)
                  refine k_aload_n X dX10_title_246 0 rfl ?_
                  refine k_iload_n X dX10_title_247 1 rfl ?_
                  refine k_ldcSw X (k := 40) (by decide) rfl rfl dX10_title_248 ?_
                  refine k_ldcSw X (k := 41) (by decide) rfl rfl dX10_title_251 ?_
                  refine k_ldcSw X (k := 42) (by decide) rfl rfl dX10_title_254 ?_
                  refine k_afterV (st := []) (fun H locs ls hP hS hl => k_runV (As := [kI v4, .ref (sa 40), .ref (sa 41), .ref (sa 42)]) X lk_X10_298 rfl yo_X10_writesBy rfl (kR_ok (by decide) (by decide)) (ct_X10_writesBy (kCx_j X) _ 40 (by decide) 41 (by decide) 42 (by decide) _ _ h) (by rfl) rfl (Nat.le_of_ble_eq_true rfl) dX10_title_257 hP hS hl) (fun z23 h => ?_)
                  refine k_goto (tgt := 339) X dX10_title_260 (by decide) ?_
                  refine k_aload_n X dX10_title_339 0 rfl ?_
                  refine k_getI X fk_X10_163 (by rfl) rfl dX10_title_340 ?_
                  exact k_iret X hrt hlk dX10_title_343 h
              · refine k_icmp_ne (tgt := 232) X dX10_title_206 (by decide) ⟨h.1, ⟨by decide, by decide⟩, h.2⟩ (fun h => ?_) (fun h => ?_)
                · exact k_sub [0, 1, 2, 3] rfl (hJ14 _ h)
                · refine k_iload X dX10_title_209 3 rfl ?_
                  refine k_iconst X dX10_title_211 ?_
                  refine k_icmp_ne (tgt := 232) X dX10_title_212 (by decide) ⟨h.1, ⟨by decide, by decide⟩, h.2⟩ (fun h => ?_) (fun h => ?_)
                  · exact k_sub [0, 1, 2, 3] rfl (hJ14 _ h)
                  · refine k_aload_n X dX10_title_215 0 rfl ?_
                    refine k_iload_n X dX10_title_216 1 rfl ?_
                    refine k_ldcSw X (k := 37) (by decide) rfl rfl dX10_title_217 ?_
                    refine k_ldcSw X (k := 38) (by decide) rfl rfl dX10_title_220 ?_
                    refine k_ldcSw X (k := 39) (by decide) rfl rfl dX10_title_223 ?_
                    refine k_afterV (st := []) (fun H locs ls hP hS hl => k_runV (As := [kI v4, .ref (sa 37), .ref (sa 38), .ref (sa 39)]) X lk_X10_298 rfl yo_X10_writesBy rfl (kR_ok (by decide) (by decide)) (ct_X10_writesBy (kCx_j X) _ 37 (by decide) 38 (by decide) 39 (by decide) _ _ h) (by rfl) rfl (Nat.le_of_ble_eq_true rfl) dX10_title_226 hP hS hl) (fun z24 h => ?_)
                    refine k_goto (tgt := 339) X dX10_title_229 (by decide) ?_
                    refine k_aload_n X dX10_title_339 0 rfl ?_
                    refine k_getI X fk_X10_163 (by rfl) rfl dX10_title_340 ?_
                    exact k_iret X hrt hlk dX10_title_343 h
            · refine k_aload_n X dX10_title_178 0 rfl ?_
              refine k_iload X dX10_title_179 2 rfl ?_
              refine k_iconst X dX10_title_181 ?_
              refine k_isub X dX10_title_182 ?_
              refine k_afterV (st := []) (fun H locs ls hP hS hl => k_runV (As := [kI (v7 - 1)]) X lk_X10_308 rfl yo_X10_grands rfl (kR_ok (by decide) (by decide)) (ct_X10_grands (kCx_j X) _ _ _ h) (by rfl) rfl (Nat.le_of_ble_eq_true rfl) dX10_title_183 hP hS hl) (fun z25 h => ?_)
              refine k_aload_n X dX10_title_186 0 rfl ?_
              refine k_iload_n X dX10_title_187 1 rfl ?_
              refine k_ldcSw X (k := 34) (by decide) rfl rfl dX10_title_188 ?_
              refine k_ldcSw X (k := 35) (by decide) rfl rfl dX10_title_191 ?_
              refine k_ldcSw X (k := 36) (by decide) rfl rfl dX10_title_194 ?_
              refine k_afterV (st := []) (fun H locs ls hP hS hl => k_runV (As := [kI v4, .ref (sa 34), .ref (sa 35), .ref (sa 36)]) X lk_X10_298 rfl yo_X10_writesBy rfl (kR_ok (by decide) (by decide)) (ct_X10_writesBy (kCx_j X) _ 34 (by decide) 35 (by decide) 36 (by decide) _ _ h) (by rfl) rfl (Nat.le_of_ble_eq_true rfl) dX10_title_197 hP hS hl) (fun z26 h => ?_)
              refine k_goto (tgt := 339) X dX10_title_200 (by decide) ?_
              refine k_aload_n X dX10_title_339 0 rfl ?_
              refine k_getI X fk_X10_163 (by rfl) rfl dX10_title_340 ?_
              exact k_iret X hrt hlk dX10_title_343 h
          · refine k_aload_n X dX10_title_148 0 rfl ?_
            refine k_iload X dX10_title_149 3 rfl ?_
            refine k_iconst X dX10_title_151 ?_
            refine k_isub X dX10_title_152 ?_
            refine k_afterV (st := []) (fun H locs ls hP hS hl => k_runV (As := [kI (v8 - 1)]) X lk_X10_308 rfl yo_X10_grands rfl (kR_ok (by decide) (by decide)) (ct_X10_grands (kCx_j X) _ _ _ h) (by rfl) rfl (Nat.le_of_ble_eq_true rfl) dX10_title_153 hP hS hl) (fun z27 h => ?_)
            refine k_aload_n X dX10_title_156 0 rfl ?_
            refine k_iload_n X dX10_title_157 1 rfl ?_
            refine k_ldcSw X (k := 31) (by decide) rfl rfl dX10_title_158 ?_
            refine k_ldcSw X (k := 32) (by decide) rfl rfl dX10_title_161 ?_
            refine k_ldcSw X (k := 33) (by decide) rfl rfl dX10_title_164 ?_
            refine k_afterV (st := []) (fun H locs ls hP hS hl => k_runV (As := [kI v4, .ref (sa 31), .ref (sa 32), .ref (sa 33)]) X lk_X10_298 rfl yo_X10_writesBy rfl (kR_ok (by decide) (by decide)) (ct_X10_writesBy (kCx_j X) _ 31 (by decide) 32 (by decide) 33 (by decide) _ _ h) (by rfl) rfl (Nat.le_of_ble_eq_true rfl) dX10_title_167 hP hS hl) (fun z28 h => ?_)
            refine k_goto (tgt := 339) X dX10_title_170 (by decide) ?_
            refine k_aload_n X dX10_title_339 0 rfl ?_
            refine k_getI X fk_X10_163 (by rfl) rfl dX10_title_340 ?_
            exact k_iret X hrt hlk dX10_title_343 h
        · refine k_if_ne (tgt := 143) X dX10_title_125 (by decide) h (fun h => ?_) (fun h => ?_)
          · exact k_sub [0, 1, 2, 3] rfl (hJ12 _ h)
          · refine k_iload X dX10_title_128 3 rfl ?_
            refine k_if_ne (tgt := 143) X dX10_title_130 (by decide) h (fun h => ?_) (fun h => ?_)
            · exact k_sub [0, 1, 2, 3] rfl (hJ12 _ h)
            · refine k_aload_n X dX10_title_133 0 rfl ?_
              refine k_ldcSw X (k := 29) (by decide) rfl rfl dX10_title_134 ?_
              refine k_afterV (st := []) (fun H locs ls hP hS hl => k_runV (As := [.ref (sa 29)]) X lk_X10_284 rfl yo_X10_writes_ rfl (kR_ok (by decide) (by decide)) (ct_X10_writes_ (kCx_j X) 29 (by decide) _ _ h) (by rfl) rfl (Nat.le_of_ble_eq_true rfl) dX10_title_137 hP hS hl) (fun z29 h => ?_)
              refine k_goto (tgt := 339) X dX10_title_140 (by decide) ?_
              refine k_aload_n X dX10_title_339 0 rfl ?_
              refine k_getI X fk_X10_163 (by rfl) rfl dX10_title_340 ?_
              exact k_iret X hrt hlk dX10_title_343 h
      · refine k_if_eq (tgt := 123) X dX10_title_113 (by decide) h (fun h => ?_) (fun h => ?_)
        · exact k_sub [3, 2, 1, 0] rfl (hJ10 _ h)
        · refine k_aload_n X dX10_title_116 3 rfl ?_
          refine k_ldcSw X (k := 28) (by decide) rfl rfl dX10_title_117 ?_
          refine k_afterV (st := []) (fun H locs ls hP hS hl => k_runV (As := [.ref (sa 28)]) X lk_X10_284 rfl yo_X10_writes_ rfl (kR_ok (by decide) (by decide)) (ct_X10_writes_ (kCx_j X) 28 (by decide) _ _ h) (by rfl) rfl (Nat.le_of_ble_eq_true rfl) dX10_title_120 hP hS hl) (fun z30 h => ?_)
          exact k_sub [3, 2, 1, 0] rfl (hJ10 _ h)
    · refine k_aload_n X dX10_title_36 1 rfl ?_
      refine k_aload_n X dX10_title_37 1 rfl ?_
      refine k_getR (t := 6) X fk_X10_27 (by rfl) (by decide) rfl dX10_title_38 ?_
      refine k_iload_n X dX10_title_41 2 rfl ?_
      refine k_iald X kzM_6 (Nat.le_of_ble_eq_true rfl) dX10_title_42 h (fun h => ?_)
      refine k_afterP (st := []) (fun H locs ls hP hS hl => k_runV (As := [kI (z5 6 a1.toNat)]) X lk_X10_289 rfl yo_X10_marriedTo rfl (kR_ok (by decide) (by decide)) (ct_X10_marriedTo (kCx_j X) _ _ _ h) (by rfl) rfl (Nat.le_of_ble_eq_true rfl) dX10_title_43 hP hS hl) (fun v31 h => ?_)
      refine k_aload_n X dX10_title_46 1 rfl ?_
      refine k_getR (t := 6) X fk_X10_27 (by rfl) (by decide) rfl dX10_title_47 ?_
      refine k_iload_n X dX10_title_50 3 rfl ?_
      refine k_iald X kzM_6 (Nat.le_of_ble_eq_true rfl) dX10_title_51 h (fun h => ?_)
      refine k_afterP (st := []) (fun H locs ls hP hS hl => k_runS (As := [kI v31, kI (z5 6 a2.toNat)]) X lk_X10_89 yo_X10_has rfl (kR_ok (by decide) (by decide)) (ct_X10_has (kCx_j X) _ _ _ _ h) (Nat.le_of_ble_eq_true rfl) dX10_title_52 hP hS hl) (fun v32 h => ?_)
      refine k_if_eq (tgt := 75) X dX10_title_55 (by decide) h (fun h => ?_) (fun h => ?_)
      · refine k_aload_n X dX10_title_75 1 rfl ?_
        refine k_ldcSw X (k := 27) (by decide) rfl rfl dX10_title_76 ?_
        refine k_afterV (st := []) (fun H locs ls hP hS hl => k_runV (As := [.ref (sa 27)]) X lk_X10_284 rfl yo_X10_writes_ rfl (kR_ok (by decide) (by decide)) (ct_X10_writes_ (kCx_j X) 27 (by decide) _ _ h) (by rfl) rfl (Nat.le_of_ble_eq_true rfl) dX10_title_79 hP hS hl) (fun z33 h => ?_)
        refine k_aload_n X dX10_title_82 1 rfl ?_
        refine k_getI X fk_X10_163 (by rfl) rfl dX10_title_83 ?_
        exact k_iret X hrt hlk dX10_title_86 h
      · refine k_aload_n X dX10_title_58 1 rfl ?_
        refine k_iload_n X dX10_title_59 0 rfl ?_
        refine k_ldcSw X (k := 24) (by decide) rfl rfl dX10_title_60 ?_
        refine k_ldcSw X (k := 25) (by decide) rfl rfl dX10_title_63 ?_
        refine k_ldcSw X (k := 26) (by decide) rfl rfl dX10_title_66 ?_
        refine k_afterV (st := []) (fun H locs ls hP hS hl => k_runV (As := [kI v4, .ref (sa 24), .ref (sa 25), .ref (sa 26)]) X lk_X10_298 rfl yo_X10_writesBy rfl (kR_ok (by decide) (by decide)) (ct_X10_writesBy (kCx_j X) _ 24 (by decide) 25 (by decide) 26 (by decide) _ _ h) (by rfl) rfl (Nat.le_of_ble_eq_true rfl) dX10_title_69 hP hS hl) (fun z34 h => ?_)
        refine k_goto (tgt := 82) X dX10_title_72 (by decide) ?_
        refine k_aload_n X dX10_title_82 1 rfl ?_
        refine k_getI X fk_X10_163 (by rfl) rfl dX10_title_83 ?_
        exact k_iret X hrt hlk dX10_title_86 h
  · refine k_iconst X dX10_title_9 ?_
    exact k_iret X hrt hlk dX10_title_10 h
set_option maxHeartbeats 4000000 in
set_option maxRecDepth 100000 in
theorem ct_X10_told_ {l : Launch} {D : va_G} {cA : Nat → ClassId} {ad sa : Nat → Nat} (hj : kInj NM ad) (a1 : Int) (z : Hp) (Kp : Int → Hp → Prop) (h : cal_X10_told_ a1 z Kp) : kMet l yX10_told_ cX10_told_ 6 (some .int) 3 NM kdM D cA ad sa [.ref (ad 0), kI a1] z (kQi NM kdM D cA ad Kp) := by
  unfold cal_X10_told_ at h
  refine k_met (cc := cX10_told_) (own := RX10) (nL := 6) rfl rfl (Nat.le_of_ble_eq_true rfl) hj kltM (fun p e s m below meth c X hrt hlk => ?_)
  refine k_sub (lv' := [(0, .ref (ad 0)), (1, kI a1)]) [0, 1] rfl ?_
  refine k_iconst X dX10_told__0 ?_
  refine k_istore_n X dX10_told__1 h (fun v1 => [(2, kI v1), (0, .ref (ad 0)), (1, kI a1)]) (by decide) (fun _ => rfl) (fun v1 h => ?_)
  refine k_iload_n X dX10_told__2 2 rfl ?_
  obtain ⟨hr43, h⟩ := h
  by_cases q44 : a1 = 0
  · rw [if_pos q44] at h
    refine k_swin (tgt := 48) X dX10_told__3 hr43 q44 (by decide) (by decide) rfl (by decide) ?_
    refine k_aload_n X dX10_told__48 1 rfl ?_
    refine k_getR (t := 1) X fk_X10_11 (by rfl) (by decide) rfl dX10_told__49 ?_
    refine k_iconst X dX10_told__52 ?_
    refine k_iald X kzM_1 (Nat.le_of_ble_eq_true rfl) dX10_told__53 ⟨⟨by decide, by decide⟩, h⟩ (fun h => ?_)
    exact k_iret X hrt hlk dX10_told__54 h
  rw [if_neg q44] at h
  by_cases q45 : a1 = 1
  · rw [if_pos q45] at h
    refine k_swin (tgt := 55) X dX10_told__3 hr43 q45 (by decide) (by decide) rfl (by decide) ?_
    refine k_aload_n X dX10_told__55 1 rfl ?_
    refine k_afterI (st := []) (fun H locs ls hP hS hl => k_runV (As := []) X lk_X10_352 rfl yo_X10_orders rfl (kR_ok (by decide) (by decide)) (ct_X10_orders (kCx_j X)  _ _ h) (by rfl) rfl (Nat.le_of_ble_eq_true rfl) dX10_told__56 hP hS hl) (fun v3 z2 h => ?_)
    exact k_iret X hrt hlk dX10_told__59 h
  rw [if_neg q45] at h
  by_cases q46 : a1 = 2
  · rw [if_pos q46] at h
    refine k_swin (tgt := 60) X dX10_told__3 hr43 q46 (by decide) (by decide) rfl (by decide) ?_
    refine k_aload_n X dX10_told__60 1 rfl ?_
    refine k_getR (t := 1) X fk_X10_11 (by rfl) (by decide) rfl dX10_told__61 ?_
    refine k_iconst X dX10_told__64 ?_
    refine k_iald X kzM_1 (Nat.le_of_ble_eq_true rfl) dX10_told__65 ⟨⟨by decide, by decide⟩, h⟩ (fun h => ?_)
    exact k_iret X hrt hlk dX10_told__66 h
  rw [if_neg q46] at h
  by_cases q47 : a1 = 3
  · rw [if_pos q47] at h
    refine k_swin (tgt := 67) X dX10_told__3 hr43 q47 (by decide) (by decide) rfl (by decide) ?_
    refine k_iconst X dX10_told__67 ?_
    refine k_istore_n X dX10_told__68 h (fun v4 => [(3, kI v4), (2, kI v1), (0, .ref (ad 0)), (1, kI a1)]) (by decide) (fun _ => rfl) (fun v4 h => ?_)
    refine k_sub (lv' := [(0, .ref (ad 0)), (2, kI v1), (3, kI v4)]) [2, 1, 0] rfl ?_
    refine h (fun v6 v7 => kAt p l e (kR 3) s m ([.ref (ad 0), kI a1] : List Value).toArray below meth c (MQ below (kQi NM kdM D cA ad Kp) ([.ref (ad 0), kI a1] : List Value).toArray s 0 0 (kA NM ad)) 6 NM kdM D cA ad 69 [(0, .ref (ad 0)), (2, kI v6), (3, kI v7)] [] z) (fun v6 v7 h => ?_)
    refine k_iload_n X dX10_told__69 2 rfl ?_
    refine k_aload_n X dX10_told__70 0 rfl ?_
    refine k_getR (t := 1) X fk_X10_11 (by rfl) (by decide) rfl dX10_told__71 ?_
    refine k_iconst X dX10_told__74 ?_
    refine k_iald X kzM_1 (Nat.le_of_ble_eq_true rfl) dX10_told__75 ⟨⟨by decide, by decide⟩, h⟩ (fun h => ?_)
    refine k_icmp_ge (tgt := 94) X dX10_told__76 (by decide) h (fun h => ?_) (fun h => ?_)
    · refine k_iload_n X dX10_told__94 1 rfl ?_
      exact k_iret X hrt hlk dX10_told__95 h
    · refine k_iload_n X dX10_told__79 1 rfl ?_
      refine k_aload_n X dX10_told__80 0 rfl ?_
      refine k_iload_n X dX10_told__81 2 rfl ?_
      refine k_iconst X dX10_told__82 ?_
      refine k_afterP (st := [kI v6]) (fun H locs ls hP hS hl => k_runV (As := [kI v7, kI 5]) X lk_X10_76 rfl yo_X10_told rfl (kR_ok (by decide) (by decide)) (ct_X10_told (kCx_j X) _ _ _ _ h) (by rfl) rfl (Nat.le_of_ble_eq_true rfl) dX10_told__83 hP hS hl) (fun v8 h => ?_)
      refine k_iadd X dX10_told__86 ?_
      refine k_istore_n X dX10_told__87 h (fun v9 => [(2, kI v9), (0, .ref (ad 0)), (3, kI v7)]) (by decide) (fun _ => rfl) (fun v9 h => ?_)
      refine k_iinc X dX10_told__88 2 rfl h (fun v10 => [(3, kI v10), (2, kI v9), (0, .ref (ad 0))]) (by decide) (fun _ => rfl) (fun v10 h => ?_)
      refine k_goto (tgt := 69) X dX10_told__91 (by decide) ?_
      exact k_sub [2, 1, 0] rfl h
  rw [if_neg q47] at h
  by_cases q48 : a1 = 4
  · rw [if_pos q48] at h
    refine k_swin (tgt := 96) X dX10_told__3 hr43 q48 (by decide) (by decide) rfl (by decide) ?_
    refine k_aload_n X dX10_told__96 1 rfl ?_
    refine k_getI X fk_X10_160 (by rfl) rfl dX10_told__97 ?_
    exact k_iret X hrt hlk dX10_told__100 h
  rw [if_neg q48] at h
  by_cases q49 : a1 = 5
  · rw [if_pos q49] at h
    refine k_swin (tgt := 101) X dX10_told__3 hr43 q49 (by decide) (by decide) rfl (by decide) ?_
    refine k_aload_n X dX10_told__101 1 rfl ?_
    refine k_getI X fk_X10_163 (by rfl) rfl dX10_told__102 ?_
    exact k_iret X hrt hlk dX10_told__105 h
  rw [if_neg q49] at h
  by_cases q50 : a1 = 6
  · rw [if_pos q50] at h
    refine k_swin (tgt := 106) X dX10_told__3 hr43 q50 (by decide) (by decide) rfl (by decide) ?_
    refine k_iconst X dX10_told__106 ?_
    refine k_istore_n X dX10_told__107 h (fun v11 => [(3, kI v11), (2, kI v1), (0, .ref (ad 0)), (1, kI a1)]) (by decide) (fun _ => rfl) (fun v11 h => ?_)
    refine k_sub (lv' := [(0, .ref (ad 0)), (2, kI v1), (3, kI v11)]) [2, 1, 0] rfl ?_
    refine h (fun v13 v14 => kAt p l e (kR 3) s m ([.ref (ad 0), kI a1] : List Value).toArray below meth c (MQ below (kQi NM kdM D cA ad Kp) ([.ref (ad 0), kI a1] : List Value).toArray s 0 0 (kA NM ad)) 6 NM kdM D cA ad 108 [(0, .ref (ad 0)), (2, kI v13), (3, kI v14)] [] z) (fun v13 v14 h => ?_)
    refine k_iload_n X dX10_told__108 2 rfl ?_
    refine k_aload_n X dX10_told__109 0 rfl ?_
    refine k_getR (t := 1) X fk_X10_11 (by rfl) (by decide) rfl dX10_told__110 ?_
    refine k_iconst X dX10_told__113 ?_
    refine k_iald X kzM_1 (Nat.le_of_ble_eq_true rfl) dX10_told__114 ⟨⟨by decide, by decide⟩, h⟩ (fun h => ?_)
    refine k_icmp_ge (tgt := 175) X dX10_told__115 (by decide) h (fun h => ?_) (fun h => ?_)
    · refine k_iload_n X dX10_told__175 1 rfl ?_
      exact k_iret X hrt hlk dX10_told__176 h
    · refine k_iconst X dX10_told__118 ?_
      refine k_istore X dX10_told__119 h (fun v15 => [(4, kI v15), (0, .ref (ad 0)), (2, kI v13), (3, kI v14)]) (by decide) (fun _ => rfl) (fun v15 h => ?_)
      refine k_iconst X dX10_told__121 ?_
      refine k_istore X dX10_told__122 h (fun v16 => [(5, kI v16), (4, kI v15), (0, .ref (ad 0)), (2, kI v13), (3, kI v14)]) (by decide) (fun _ => rfl) (fun v16 h => ?_)
      refine k_sub (lv' := [(0, .ref (ad 0)), (2, kI v13), (3, kI v14), (4, kI v15), (5, kI v16)]) [2, 3, 4, 1, 0] rfl ?_
      refine h (fun v18 v19 => kAt p l e (kR 3) s m ([.ref (ad 0), kI a1] : List Value).toArray below meth c (MQ below (kQi NM kdM D cA ad Kp) ([.ref (ad 0), kI a1] : List Value).toArray s 0 0 (kA NM ad)) 6 NM kdM D cA ad 124 [(0, .ref (ad 0)), (2, kI v13), (3, kI v14), (4, kI v18), (5, kI v19)] [] z) (fun v18 v19 h => ?_)
      refine k_iload X dX10_told__124 4 rfl ?_
      refine k_iload_n X dX10_told__126 2 rfl ?_
      refine k_icmp_ge (tgt := 156) X dX10_told__127 (by decide) h (fun h => ?_) (fun h => ?_)
      · refine k_iload_n X dX10_told__156 1 rfl ?_
        refine k_iload X dX10_told__157 3 rfl ?_
        refine jn_use (fun J21 => ∀ (v20 : Int), J21 v20 → kAt p l e (kR 3) s m ([.ref (ad 0), kI a1] : List Value).toArray below meth c (MQ below (kQi NM kdM D cA ad Kp) ([.ref (ad 0), kI a1] : List Value).toArray s 0 0 (kA NM ad)) 6 NM kdM D cA ad 169 [(0, .ref (ad 0)), (2, kI v20), (3, kI v14)] [] z) h ?_ (fun J21 hJ21 h => ?_)
        · intro v20 h
          refine k_iinc X dX10_told__169 2 rfl h (fun v22 => [(3, kI v22), (0, .ref (ad 0)), (2, kI v20)]) (by decide) (fun _ => rfl) (fun v22 h => ?_)
          refine k_goto (tgt := 108) X dX10_told__172 (by decide) ?_
          exact k_sub [1, 2, 0] rfl h
        · refine k_if_eq (tgt := 166) X dX10_told__159 (by decide) h (fun h => ?_) (fun h => ?_)
          · refine k_iconst X dX10_told__166 ?_
            refine k_iadd X dX10_told__167 ?_
            refine k_istore_n X dX10_told__168 h (fun v23 => [(2, kI v23), (0, .ref (ad 0)), (3, kI v14), (4, kI v18), (5, kI v19)]) (by decide) (fun _ => rfl) (fun v23 h => ?_)
            exact k_sub [1, 0, 2] rfl (hJ21 _ h)
          · refine k_iconst X dX10_told__162 ?_
            refine k_goto (tgt := 167) X dX10_told__163 (by decide) ?_
            refine k_iadd X dX10_told__167 ?_
            refine k_istore_n X dX10_told__168 h (fun v24 => [(2, kI v24), (0, .ref (ad 0)), (3, kI v14), (4, kI v18), (5, kI v19)]) (by decide) (fun _ => rfl) (fun v24 h => ?_)
            exact k_sub [1, 0, 2] rfl (hJ21 _ h)
      · refine k_iload X dX10_told__130 3 rfl ?_
        refine k_aload_n X dX10_told__132 0 rfl ?_
        refine k_iload X dX10_told__133 4 rfl ?_
        refine k_iload_n X dX10_told__135 2 rfl ?_
        refine k_afterP (st := [kI v18]) (fun H locs ls hP hS hl => k_runV (As := [kI v19, kI v14]) X lk_X10_225 rfl yo_X10_compares rfl (kR_ok (by decide) (by decide)) (ct_X10_compares (kCx_j X) _ _ _ _ h) (by rfl) rfl (Nat.le_of_ble_eq_true rfl) dX10_told__136 hP hS hl) (fun v25 h => ?_)
        refine jn_use (fun J27 => ∀ (v26 : Int), J27 v26 → kAt p l e (kR 3) s m ([.ref (ad 0), kI a1] : List Value).toArray below meth c (MQ below (kQi NM kdM D cA ad Kp) ([.ref (ad 0), kI a1] : List Value).toArray s 0 0 (kA NM ad)) 6 NM kdM D cA ad 150 [(0, .ref (ad 0)), (2, kI v13), (3, kI v14), (4, kI v26), (5, kI v19)] [] z) h ?_ (fun J27 hJ27 h => ?_)
        · intro v26 h
          refine k_iinc X dX10_told__150 4 rfl h (fun v28 => [(5, kI v28), (0, .ref (ad 0)), (2, kI v13), (3, kI v14), (4, kI v26)]) (by decide) (fun _ => rfl) (fun v28 h => ?_)
          refine k_goto (tgt := 124) X dX10_told__153 (by decide) ?_
          exact k_sub [1, 2, 3, 4, 0] rfl h
        · refine k_if_eq (tgt := 146) X dX10_told__139 (by decide) h (fun h => ?_) (fun h => ?_)
          · refine k_iconst X dX10_told__146 ?_
            refine k_iand X dX10_told__147 ?_
            refine k_istore X dX10_told__148 h (fun v29 => [(4, kI v29), (0, .ref (ad 0)), (2, kI v13), (3, kI v14), (5, kI v19)]) (by decide) (fun _ => rfl) (fun v29 h => ?_)
            exact k_sub [1, 2, 3, 0, 4] rfl (hJ27 _ h)
          · refine k_iconst X dX10_told__142 ?_
            refine k_goto (tgt := 147) X dX10_told__143 (by decide) ?_
            refine k_iand X dX10_told__147 ?_
            refine k_istore X dX10_told__148 h (fun v30 => [(4, kI v30), (0, .ref (ad 0)), (2, kI v13), (3, kI v14), (5, kI v19)]) (by decide) (fun _ => rfl) (fun v30 h => ?_)
            exact k_sub [1, 2, 3, 0, 4] rfl (hJ27 _ h)
  rw [if_neg q50] at h
  by_cases q51 : a1 = 7
  · rw [if_pos q51] at h
    refine k_swin (tgt := 177) X dX10_told__3 hr43 q51 (by decide) (by decide) rfl (by decide) ?_
    refine k_aload_n X dX10_told__177 1 rfl ?_
    refine k_getR (t := 1) X fk_X10_11 (by rfl) (by decide) rfl dX10_told__178 ?_
    refine k_iconst X dX10_told__181 ?_
    refine k_iald X kzM_1 (Nat.le_of_ble_eq_true rfl) dX10_told__182 ⟨⟨by decide, by decide⟩, h⟩ (fun h => ?_)
    refine k_if_eq (tgt := 193) X dX10_told__183 (by decide) h (fun h => ?_) (fun h => ?_)
    · refine k_bipush X dX10_told__193 (by decide +kernel) ?_
      exact k_iret X hrt hlk dX10_told__195 h
    · refine k_aload_n X dX10_told__186 1 rfl ?_
      refine k_afterI (st := []) (fun H locs ls hP hS hl => k_runV (As := []) X lk_X10_240 rfl yo_X10_ages rfl (kR_ok (by decide) (by decide)) (ct_X10_ages (kCx_j X)  _ _ h) (by rfl) rfl (Nat.le_of_ble_eq_true rfl) dX10_told__187 hP hS hl) (fun v32 z31 h => ?_)
      refine k_if_ne (tgt := 196) X dX10_told__190 (by decide) h (fun h => ?_) (fun h => ?_)
      · refine k_iconst X dX10_told__196 ?_
        refine k_istore_n X dX10_told__197 h (fun v33 => [(3, kI v33), (2, kI v1), (0, .ref (ad 0)), (1, kI a1)]) (by decide) (fun _ => rfl) (fun v33 h => ?_)
        refine k_sub (lv' := [(0, .ref (ad 0)), (2, kI v1), (3, kI v33)]) [2, 1, 0] rfl ?_
        refine h (fun v35 v36 => kAt p l e (kR 3) s m ([.ref (ad 0), kI a1] : List Value).toArray below meth c (MQ below (kQi NM kdM D cA ad Kp) ([.ref (ad 0), kI a1] : List Value).toArray s 0 0 (kA NM ad)) 6 NM kdM D cA ad 198 [(0, .ref (ad 0)), (2, kI v35), (3, kI v36)] [] z31) (fun v35 v36 h => ?_)
        refine k_iload_n X dX10_told__198 2 rfl ?_
        refine k_aload_n X dX10_told__199 0 rfl ?_
        refine k_getR (t := 1) X fk_X10_11 (by rfl) (by decide) rfl dX10_told__200 ?_
        refine k_iconst X dX10_told__203 ?_
        refine k_iald X kzM_1 (Nat.le_of_ble_eq_true rfl) dX10_told__204 ⟨⟨by decide, by decide⟩, h⟩ (fun h => ?_)
        refine k_icmp_ge (tgt := 237) X dX10_told__205 (by decide) h (fun h => ?_) (fun h => ?_)
        · refine k_iload_n X dX10_told__237 1 rfl ?_
          exact k_iret X hrt hlk dX10_told__238 h
        · refine k_aload_n X dX10_told__208 0 rfl ?_
          refine k_iload_n X dX10_told__209 2 rfl ?_
          refine k_afterP (st := []) (fun H locs ls hP hS hl => k_runV (As := [kI v36]) X lk_X10_103 rfl yo_X10_isOne rfl (kR_ok (by decide) (by decide)) (ct_X10_isOne (kCx_j X) _ _ _ h) (by rfl) rfl (Nat.le_of_ble_eq_true rfl) dX10_told__210 hP hS hl) (fun v37 h => ?_)
          refine jn_use (fun J39 => ∀ (v38 : Int), J39 v38 → kAt p l e (kR 3) s m ([.ref (ad 0), kI a1] : List Value).toArray below meth c (MQ below (kQi NM kdM D cA ad Kp) ([.ref (ad 0), kI a1] : List Value).toArray s 0 0 (kA NM ad)) 6 NM kdM D cA ad 231 [(0, .ref (ad 0)), (2, kI v38), (3, kI v36)] [] z31) h ?_ (fun J39 hJ39 h => ?_)
          · intro v38 h
            refine k_iinc X dX10_told__231 2 rfl h (fun v40 => [(3, kI v40), (0, .ref (ad 0)), (2, kI v38)]) (by decide) (fun _ => rfl) (fun v40 h => ?_)
            refine k_goto (tgt := 198) X dX10_told__234 (by decide) ?_
            exact k_sub [1, 2, 0] rfl h
          · refine k_if_eq (tgt := 229) X dX10_told__213 (by decide) h (fun h => ?_) (fun h => ?_)
            · refine k_iload_n X dX10_told__229 1 rfl ?_
              refine k_istore_n X dX10_told__230 h (fun v41 => [(2, kI v41), (0, .ref (ad 0)), (3, kI v36)]) (by decide) (fun _ => rfl) (fun v41 h => ?_)
              exact k_sub [1, 0, 2] rfl (hJ39 _ h)
            · refine k_iload_n X dX10_told__216 1 rfl ?_
              refine k_aload_n X dX10_told__217 0 rfl ?_
              refine k_getR (t := 17) X fk_X10_60 (by rfl) (by decide) rfl dX10_told__218 ?_
              refine k_iload_n X dX10_told__221 2 rfl ?_
              refine k_iald X kzM_17 (Nat.le_of_ble_eq_true rfl) dX10_told__222 h (fun h => ?_)
              refine k_mmax X mw1097 mw447 mw11 mw448 (kR_one (by decide)) (Nat.le_of_ble_eq_true rfl) dX10_told__223 h (fun h => ?_)
              refine k_goto (tgt := 230) X dX10_told__226 (by decide) ?_
              refine k_istore_n X dX10_told__230 h (fun v42 => [(2, kI v42), (0, .ref (ad 0)), (3, kI v36)]) (by decide) (fun _ => rfl) (fun v42 h => ?_)
              exact k_sub [1, 0, 2] rfl (hJ39 _ h)
      · refine k_bipush X dX10_told__193 (by decide +kernel) ?_
        exact k_iret X hrt hlk dX10_told__195 h
  rw [if_neg q51] at h
  refine k_swout (tgt := 239) X dX10_told__3 hr43 (by omega) (by decide) ?_
  refine k_iconst X dX10_told__239 ?_
  exact k_iret X hrt hlk dX10_told__240 h
set_option maxHeartbeats 4000000 in
set_option maxRecDepth 100000 in
theorem ct_X10_undo {l : Launch} {D : va_G} {cA : Nat → ClassId} {ad sa : Nat → Nat} (hj : kInj NM ad)  (z : Hp) (Kp : Int → Hp → Prop) (h : cal_X10_undo  z Kp) : kMet l yX10_undo cX10_undo 1 (some .int) 5 NM kdM D cA ad sa [.ref (ad 0)] z (kQi NM kdM D cA ad Kp) := by
  unfold cal_X10_undo at h
  refine k_met (cc := cX10_undo) (own := RX10) (nL := 1) rfl rfl (Nat.le_of_ble_eq_true rfl) hj kltM (fun p e s m below meth c X hrt hlk => ?_)
  refine k_sub (lv' := [(0, .ref (ad 0))]) [0] rfl ?_
  refine k_aload_n X dX10_undo_0 0 rfl ?_
  refine k_getI X fk_X10_362 (by rfl) rfl dX10_undo_1 ?_
  refine k_if_ne (tgt := 10) X dX10_undo_4 (by decide) h (fun h => ?_) (fun h => ?_)
  · refine k_aload_n X dX10_undo_10 0 rfl ?_
    refine k_getR (t := 2) X fk_X10_15 (by rfl) (by decide) rfl dX10_undo_11 ?_
    refine k_aload_n X dX10_undo_14 0 rfl ?_
    refine k_getR (t := 1) X fk_X10_11 (by rfl) (by decide) rfl dX10_undo_15 ?_
    refine k_afterV (st := []) (fun H locs ls hP hS hl => k_runS (As := [.ref (ad 2), .ref (ad 1)]) X lk_X10_358 yo_X10_copies rfl (kR_ok (by decide) (by decide)) (ct_X10_copies (kCx_j X) 2 kzM_2 1 kzM_1 _ _ h) (Nat.le_of_ble_eq_true rfl) dX10_undo_18 hP hS hl) (fun z1 h => ?_)
    refine k_aload_n X dX10_undo_21 0 rfl ?_
    refine k_afterV (st := []) (fun H locs ls hP hS hl => k_runV (As := []) X lk_X10_69 rfl yo_X10_works rfl (kR_ok (by decide) (by decide)) (ct_X10_works (kCx_j X)  _ _ h) (by rfl) rfl (Nat.le_of_ble_eq_true rfl) dX10_undo_22 hP hS hl) (fun z2 h => ?_)
    refine k_aload_n X dX10_undo_25 0 rfl ?_
    refine k_getR (t := 1) X fk_X10_11 (by rfl) (by decide) rfl dX10_undo_26 ?_
    refine k_iconst X dX10_undo_29 ?_
    refine k_iald X kzM_1 (Nat.le_of_ble_eq_true rfl) dX10_undo_30 ⟨⟨by decide, by decide⟩, h⟩ (fun h => ?_)
    exact k_iret X hrt hlk dX10_undo_31 h
  · refine k_bipush X dX10_undo_7 (by decide +kernel) ?_
    exact k_iret X hrt hlk dX10_undo_9 h
set_option maxHeartbeats 4000000 in
set_option maxRecDepth 100000 in
theorem ct_X10_why {l : Launch} {D : va_G} {cA : Nat → ClassId} {ad sa : Nat → Nat} (hj : kInj NM ad) (a1 : Int) (a2 : Int) (a3 : Int) (z : Hp) (Kp : Int → Prop) (h : cal_X10_why a1 a2 a3 z Kp) : kMet l yX10_why cX10_why 4 (some .int) 2 NM kdM D cA ad sa [.ref (ad 0), kI a1, kI a2, kI a3] z (kQi NM kdM D cA ad (fun v z1 => z1 = z ∧ Kp v)) := by
  unfold cal_X10_why at h
  refine k_met (cc := cX10_why) (own := RX10) (nL := 4) rfl rfl (Nat.le_of_ble_eq_true rfl) hj kltM (fun p e s m below meth c X hrt hlk => ?_)
  refine k_sub (lv' := [(0, .ref (ad 0)), (1, kI a1), (2, kI a2), (3, kI a3)]) [0, 1, 2, 3] rfl ?_
  refine k_iload_n X dX10_why_0 1 rfl ?_
  refine k_iconst X dX10_why_1 ?_
  refine k_iconst X dX10_why_2 ?_
  refine k_afterP (st := []) (fun H locs ls hP hS hl => k_runS (As := [kI a1, kI 0, kI 1]) X lk_X10_72 yo_X10_isIn rfl (kR_ok (by decide) (by decide)) (ct_X10_isIn (kCx_j X) _ _ _ _ _ h) (Nat.le_of_ble_eq_true rfl) dX10_why_3 hP hS hl) (fun v1 h => ?_)
  refine k_if_eq (tgt := 17) X dX10_why_6 (by decide) h (fun h => ?_) (fun h => ?_)
  · refine k_iconst X dX10_why_17 ?_
    exact k_iret X hrt hlk dX10_why_18 ⟨rfl, h⟩
  · refine k_iload_n X dX10_why_9 2 rfl ?_
    refine k_iload_n X dX10_why_10 3 rfl ?_
    refine k_afterP (st := []) (fun H locs ls hP hS hl => k_runS (As := [kI a2, kI a3]) X lk_X10_252 yo_X10_isLink rfl (kR_ok (by decide) (by decide)) (ct_X10_isLink (kCx_j X) _ _ _ _ h) (Nat.le_of_ble_eq_true rfl) dX10_why_11 hP hS hl) (fun v2 h => ?_)
    refine k_if_ne (tgt := 19) X dX10_why_14 (by decide) h (fun h => ?_) (fun h => ?_)
    · refine k_aload_n X dX10_why_19 0 rfl ?_
      refine k_getI X fk_X10_96 (by rfl) rfl dX10_why_20 ?_
      refine k_iconst X dX10_why_23 ?_
      refine k_icmp_ne (tgt := 44) X dX10_why_24 (by decide) ⟨h.1, ⟨by decide, by decide⟩, h.2⟩ (fun h => ?_) (fun h => ?_)
      · refine k_bipush X dX10_why_44 (by decide +kernel) ?_
        exact k_iret X hrt hlk dX10_why_46 ⟨rfl, h⟩
      · refine k_aload_n X dX10_why_27 0 rfl ?_
        refine k_iconst X dX10_why_28 ?_
        refine k_aload_n X dX10_why_29 0 rfl ?_
        refine k_getI X fk_X10_100 (by rfl) rfl dX10_why_30 ?_
        refine k_imul X dX10_why_33 ?_
        refine k_iload_n X dX10_why_34 1 rfl ?_
        refine k_iadd X dX10_why_35 ?_
        refine k_iload_n X dX10_why_36 2 rfl ?_
        refine k_iload_n X dX10_why_37 3 rfl ?_
        refine k_afterP (st := []) (fun H locs ls hP hS hl => k_runV (As := [kI ((2 * (z 0 18)) + a1), kI a2, kI a3]) X lk_X10_255 rfl yo_X10_rests rfl (kR_ok (by decide) (by decide)) (ct_X10_rests (kCx_j X) _ _ _ _ _ h) (by rfl) rfl (Nat.le_of_ble_eq_true rfl) dX10_why_38 hP hS hl) (fun v3 h => ?_)
        refine k_goto (tgt := 46) X dX10_why_41 (by decide) ?_
        exact k_iret X hrt hlk dX10_why_46 ⟨rfl, h⟩
    · refine k_iconst X dX10_why_17 ?_
      exact k_iret X hrt hlk dX10_why_18 ⟨rfl, h⟩
set_option maxHeartbeats 4000000 in
set_option maxRecDepth 100000 in
theorem ct_X10_year {l : Launch} {D : va_G} {cA : Nat → ClassId} {ad sa : Nat → Nat} (hj : kInj NM ad) (a1 : Int) (a2 : Int) (z : Hp) (Kp : Int → Prop) (h : cal_X10_year a1 a2 z Kp) : kMet l yX10_year cX10_year 3 (some .int) 2 NM kdM D cA ad sa [.ref (ad 0), kI a1, kI a2] z (kQi NM kdM D cA ad (fun v z1 => z1 = z ∧ Kp v)) := by
  unfold cal_X10_year at h
  refine k_met (cc := cX10_year) (own := RX10) (nL := 3) rfl rfl (Nat.le_of_ble_eq_true rfl) hj kltM (fun p e s m below meth c X hrt hlk => ?_)
  refine k_sub (lv' := [(0, .ref (ad 0)), (1, kI a1), (2, kI a2)]) [0, 1, 2] rfl ?_
  refine k_aload_n X dX10_year_0 0 rfl ?_
  refine k_iload_n X dX10_year_1 1 rfl ?_
  refine k_afterP (st := []) (fun H locs ls hP hS hl => k_runV (As := [kI a1]) X lk_X10_202 rfl yo_X10_isStatement rfl (kR_ok (by decide) (by decide)) (ct_X10_isStatement (kCx_j X) _ _ _ h) (by rfl) rfl (Nat.le_of_ble_eq_true rfl) dX10_year_2 hP hS hl) (fun v1 h => ?_)
  refine k_if_eq (tgt := 17) X dX10_year_5 (by decide) h (fun h => ?_) (fun h => ?_)
  · refine k_iconst X dX10_year_17 ?_
    exact k_iret X hrt hlk dX10_year_18 ⟨rfl, h⟩
  · refine k_iload_n X dX10_year_8 2 rfl ?_
    refine k_iconst X dX10_year_9 ?_
    refine k_iconst X dX10_year_10 ?_
    refine k_afterP (st := []) (fun H locs ls hP hS hl => k_runS (As := [kI a2, kI 0, kI 1]) X lk_X10_72 yo_X10_isIn rfl (kR_ok (by decide) (by decide)) (ct_X10_isIn (kCx_j X) _ _ _ _ _ h) (Nat.le_of_ble_eq_true rfl) dX10_year_11 hP hS hl) (fun v2 h => ?_)
    refine k_if_ne (tgt := 19) X dX10_year_14 (by decide) h (fun h => ?_) (fun h => ?_)
    · refine k_aload_n X dX10_year_19 0 rfl ?_
      refine k_iload_n X dX10_year_20 1 rfl ?_
      refine k_iconst X dX10_year_21 ?_
      refine k_afterP (st := []) (fun H locs ls hP hS hl => k_runV (As := [kI a1, kI 4]) X lk_X10_80 rfl yo_X10_isLive rfl (kR_ok (by decide) (by decide)) (ct_X10_isLive (kCx_j X) _ _ _ _ h) (by rfl) rfl (Nat.le_of_ble_eq_true rfl) dX10_year_22 hP hS hl) (fun v3 h => ?_)
      refine k_if_eq (tgt := 44) X dX10_year_25 (by decide) h (fun h => ?_) (fun h => ?_)
      · refine k_bipush X dX10_year_44 (by decide +kernel) ?_
        exact k_iret X hrt hlk dX10_year_46 ⟨rfl, h⟩
      · refine k_aload_n X dX10_year_28 0 rfl ?_
        refine k_getR (t := 10) X fk_X10_39 (by rfl) (by decide) rfl dX10_year_29 ?_
        refine k_iconst X dX10_year_32 ?_
        refine k_iload_n X dX10_year_33 1 rfl ?_
        refine k_afterP (st := [kI 2, .ref (ad 10)]) (fun H locs ls hP hS hl => k_runS (As := [kI a1]) X lk_X10_138 yo_X10_yearOf rfl (kR_ok (by decide) (by decide)) (ct_X10_yearOf (kCx_j X) _ _ _ h) (Nat.le_of_ble_eq_true rfl) dX10_year_34 hP hS hl) (fun v4 h => ?_)
        refine k_imul X dX10_year_37 ?_
        refine k_iload_n X dX10_year_38 2 rfl ?_
        refine k_iadd X dX10_year_39 ?_
        refine k_iald X kzM_10 (Nat.le_of_ble_eq_true rfl) dX10_year_40 h (fun h => ?_)
        refine k_goto (tgt := 46) X dX10_year_41 (by decide) ?_
        exact k_iret X hrt hlk dX10_year_46 ⟨rfl, h⟩
    · refine k_iconst X dX10_year_17 ?_
      exact k_iret X hrt hlk dX10_year_18 ⟨rfl, h⟩
set_option maxHeartbeats 4000000 in
set_option maxRecDepth 100000 in
theorem ct_X1_has {l : Launch} {D : va_G} {cA : Nat → ClassId} {ad sa : Nat → Nat} (hj : kInj NC ad) (a1 : Int) (a2 : Int) (z : Hp) (Kp : Int → Prop) (h : cal_X1_has a1 a2 z Kp) : kMet l yX1_has cX1_has 2 (some .boolean) 0 NC kdC D cA ad sa [kI a1, kI a2] z (kQi NC kdC D cA ad (fun v z1 => z1 = z ∧ Kp v)) := by
  unfold cal_X1_has at h
  refine k_met (cc := cX1_has) (own := RX1) (nL := 2) rfl rfl (Nat.le_of_ble_eq_true rfl) hj kltC (fun p e s m below meth c X hrt hlk => ?_)
  refine k_sub (lv' := [(0, kI a1), (1, kI a2)]) [0, 1] rfl ?_
  refine k_iload_n X dX1_has_0 0 rfl ?_
  refine k_iload_n X dX1_has_1 1 rfl ?_
  refine k_iushr X dX1_has_2 ?_
  refine k_iconst X dX1_has_3 ?_
  refine k_iand X dX1_has_4 ?_
  refine k_if_eq (tgt := 12) X dX1_has_5 (by decide) h (fun h => ?_) (fun h => ?_)
  · refine k_iconst X dX1_has_12 ?_
    exact k_zret X hrt hlk dX1_has_13 ⟨Or.inl rfl, ⟨rfl, h⟩⟩
  · refine k_iconst X dX1_has_8 ?_
    refine k_goto (tgt := 13) X dX1_has_9 (by decide) ?_
    exact k_zret X hrt hlk dX1_has_13 ⟨Or.inr rfl, ⟨rfl, h⟩⟩
set_option maxHeartbeats 4000000 in
set_option maxRecDepth 100000 in
theorem ct_X1_areMarried {l : Launch} {D : va_G} {cA : Nat → ClassId} {ad sa : Nat → Nat} (hj : kInj NC ad) (t : Nat) (ht : kdC t = (0, 1, 13)) (a1 : Int) (a2 : Int) (z : Hp) (Kp : Int → Prop) (h : cal_X1_areMarried t a1 a2 z Kp) : kMet l yX1_areMarried cX1_areMarried 3 (some .boolean) 1 NC kdC D cA ad sa [.ref (ad t), kI a1, kI a2] z (kQi NC kdC D cA ad (fun v z1 => z1 = z ∧ Kp v)) := by
  unfold cal_X1_areMarried at h
  refine k_met (cc := cX1_areMarried) (own := RX1) (nL := 3) rfl rfl (Nat.le_of_ble_eq_true rfl) hj kltC (fun p e s m below meth c X hrt hlk => ?_)
  refine k_sub (lv' := [(0, .ref (ad t)), (1, kI a1), (2, kI a2)]) [0, 1, 2] rfl ?_
  refine k_aload_n X dX1_areMarried_0 0 rfl ?_
  refine k_getR (t := t + 8) X fk_X1_33 ht (by decide) rfl dX1_areMarried_1 ?_
  refine k_iload_n X dX1_areMarried_4 1 rfl ?_
  refine k_iald X (kc_1_9 ht) (Nat.le_of_ble_eq_true rfl) dX1_areMarried_5 h (fun h => ?_)
  refine k_iload_n X dX1_areMarried_6 2 rfl ?_
  refine k_afterP (st := []) (fun H locs ls hP hS hl => k_runS (As := [kI (z (t + 8) a1.toNat), kI a2]) X lk_X1_42 yo_X1_has rfl (kR_ok (by decide) (by decide)) (ct_X1_has (kCx_j X) _ _ _ _ h) (Nat.le_of_ble_eq_true rfl) dX1_areMarried_7 hP hS hl) (fun v1 h => ?_)
  exact k_zret X hrt hlk dX1_areMarried_10 ⟨h.1, ⟨rfl, h.2⟩⟩
set_option maxHeartbeats 4000000 in
set_option maxRecDepth 100000 in
theorem ct_X1_holders {l : Launch} {D : va_G} {cA : Nat → ClassId} {ad sa : Nat → Nat} (hj : kInj NC ad) (r1 : Nat) (hr1 : kdC r1 = (1, 30, 0)) (a2 : Int) (z : Hp) (Kp : Int → Prop) (h : cal_X1_holders r1 a2 z Kp) : kMet l yX1_holders cX1_holders 4 (some .int) 1 NC kdC D cA ad sa [.ref (ad r1), kI a2] z (kQi NC kdC D cA ad (fun v z1 => z1 = z ∧ Kp v)) := by
  unfold cal_X1_holders at h
  refine k_met (cc := cX1_holders) (own := RX1) (nL := 4) rfl rfl (Nat.le_of_ble_eq_true rfl) hj kltC (fun p e s m below meth c X hrt hlk => ?_)
  refine k_sub (lv' := [(0, .ref (ad r1)), (1, kI a2)]) [0, 1] rfl ?_
  refine k_iconst X dX1_holders_0 ?_
  refine k_istore_n X dX1_holders_1 h (fun v1 => [(2, kI v1), (0, .ref (ad r1)), (1, kI a2)]) (by decide) (fun _ => rfl) (fun v1 h => ?_)
  refine k_iconst X dX1_holders_2 ?_
  refine k_istore_n X dX1_holders_3 h (fun v2 => [(3, kI v2), (2, kI v1), (0, .ref (ad r1)), (1, kI a2)]) (by decide) (fun _ => rfl) (fun v2 h => ?_)
  refine k_sub (lv' := [(0, .ref (ad r1)), (1, kI a2), (2, kI v1), (3, kI v2)]) [2, 3, 1, 0] rfl ?_
  refine h (fun v4 v5 => kAt p l e (kR 1) s m ([.ref (ad r1), kI a2] : List Value).toArray below meth c (MQ below (kQi NC kdC D cA ad (fun v z1 => z1 = z ∧ Kp v)) ([.ref (ad r1), kI a2] : List Value).toArray s 0 0 (kA NC ad)) 4 NC kdC D cA ad 4 [(0, .ref (ad r1)), (1, kI a2), (2, kI v4), (3, kI v5)] [] z) (fun v4 v5 h => ?_)
  refine k_iload_n X dX1_holders_4 3 rfl ?_
  refine k_bipush X dX1_holders_5 (by decide +kernel) ?_
  refine k_icmp_ge (tgt := 32) X dX1_holders_7 (by decide) ⟨h.1, ⟨by decide, by decide⟩, h.2⟩ (fun h => ?_) (fun h => ?_)
  · refine k_iload_n X dX1_holders_32 2 rfl ?_
    exact k_iret X hrt hlk dX1_holders_33 ⟨rfl, h⟩
  · refine k_aload_n X dX1_holders_10 0 rfl ?_
    refine k_iload_n X dX1_holders_11 3 rfl ?_
    refine k_iald X hr1 (Nat.le_of_ble_eq_true rfl) dX1_holders_12 h (fun h => ?_)
    refine k_iload_n X dX1_holders_13 1 rfl ?_
    refine k_afterP (st := []) (fun H locs ls hP hS hl => k_runS (As := [kI (z r1 v5.toNat), kI a2]) X lk_X1_42 yo_X1_has rfl (kR_ok (by decide) (by decide)) (ct_X1_has (kCx_j X) _ _ _ _ h) (Nat.le_of_ble_eq_true rfl) dX1_holders_14 hP hS hl) (fun v6 h => ?_)
    refine jn_use (fun J8 => ∀ (v7 : Int), J8 v7 → kAt p l e (kR 1) s m ([.ref (ad r1), kI a2] : List Value).toArray below meth c (MQ below (kQi NC kdC D cA ad (fun v z1 => z1 = z ∧ Kp v)) ([.ref (ad r1), kI a2] : List Value).toArray s 0 0 (kA NC ad)) 4 NC kdC D cA ad 26 [(0, .ref (ad r1)), (1, kI a2), (2, kI v7), (3, kI v5)] [] z) h ?_ (fun J8 hJ8 h => ?_)
    · intro v7 h
      refine k_iinc X dX1_holders_26 3 rfl h (fun v9 => [(3, kI v9), (0, .ref (ad r1)), (1, kI a2), (2, kI v7)]) (by decide) (fun _ => rfl) (fun v9 h => ?_)
      refine k_goto (tgt := 4) X dX1_holders_29 (by decide) ?_
      exact k_sub [1, 2, 3, 0] rfl h
    · refine k_if_eq (tgt := 26) X dX1_holders_17 (by decide) h (fun h => ?_) (fun h => ?_)
      · exact k_sub [0, 1, 2, 3] rfl (hJ8 _ h)
      · refine k_iload_n X dX1_holders_20 2 rfl ?_
        refine k_iconst X dX1_holders_21 ?_
        refine k_iload_n X dX1_holders_22 3 rfl ?_
        refine k_ishl X dX1_holders_23 ?_
        refine k_ior X dX1_holders_24 ?_
        refine k_istore_n X dX1_holders_25 h (fun v10 => [(2, kI v10), (0, .ref (ad r1)), (1, kI a2), (3, kI v5)]) (by decide) (fun _ => rfl) (fun v10 h => ?_)
        exact k_sub [1, 2, 0, 3] rfl (hJ8 _ h)
set_option maxHeartbeats 4000000 in
set_option maxRecDepth 100000 in
theorem ct_X1_below {l : Launch} {D : va_G} {cA : Nat → ClassId} {ad sa : Nat → Nat} (hj : kInj NC ad) (t : Nat) (ht : kdC t = (0, 1, 13)) (a1 : Int) (z : Hp) (Kp : Int → Prop) (h : cal_X1_below t a1 z Kp) : kMet l yX1_below cX1_below 2 (some .int) 2 NC kdC D cA ad sa [.ref (ad t), kI a1] z (kQi NC kdC D cA ad (fun v z1 => z1 = z ∧ Kp v)) := by
  unfold cal_X1_below at h
  refine k_met (cc := cX1_below) (own := RX1) (nL := 2) rfl rfl (Nat.le_of_ble_eq_true rfl) hj kltC (fun p e s m below meth c X hrt hlk => ?_)
  refine k_sub (lv' := [(0, .ref (ad t)), (1, kI a1)]) [0, 1] rfl ?_
  refine k_aload_n X dX1_below_0 0 rfl ?_
  refine k_getR (t := t + 7) X fk_X1_30 ht (by decide) rfl dX1_below_1 ?_
  refine k_iload_n X dX1_below_4 1 rfl ?_
  refine k_afterP (st := []) (fun H locs ls hP hS hl => k_runS (As := [.ref (ad (t + 7)), kI a1]) X lk_X1_124 yo_X1_holders rfl (kR_ok (by decide) (by decide)) (ct_X1_holders (kCx_j X) (t + 7) (kc_1_8 ht) _ _ _ h) (Nat.le_of_ble_eq_true rfl) dX1_below_5 hP hS hl) (fun v1 h => ?_)
  exact k_iret X hrt hlk dX1_below_8 ⟨rfl, h⟩
