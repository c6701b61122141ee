/-! the JDK's own members over the text constants: length(), charAt(i) -/
theorem kTx_ascii : ∀ k, k < kstrL.length → ∀ j, j < (kTx k).length → 0 ≤ (kTx k).getD j 0 ∧ (kTx k).getD j 0 < 128 := by decide +kernel
theorem kTx_len : ∀ k, k < kstrL.length → (kTx k).length < 100 := by decide +kernel
theorem k_ch1 : ∀ c : Nat, c < 128 → ((Int32.ofInt (iand (c : Nat) 255)).toUInt32 % 65536).toInt32 = Int32.ofInt (c : Nat) := by decide +kernel
theorem k_ch2 : ∀ c : Nat, c < 128 → narrow .char (.int (Int32.ofInt (c : Nat))) = .int (Int32.ofInt (c : Nat)) := by decide +kernel
section KJ
variable {p : Program} {l : Launch} {e : Env} {R : Room} {s : State} {m : MethodId} {args : Array Value} {below : List Frame} {meth : Method} {c : Code} {Q : State → Prop}
variable {cc : ByteArray} {own : String} {nL N : Nat} {kd : Nat → Nat × Nat × Nat} {D : va_G} {cA : Nat → ClassId} {ad sa : Nat → Nat}
variable {pc : Nat} {lv : List (Nat × Value)} {st : List Value} {z : Hp}
theorem k_str (X : kCx p R s m args c cc own nL N kd D cA ad sa) {k : Nat} (hk : k < kstrL.length) : kStr (sa k) (sa (100 + k)) (kTx k) (kA N ad) s s.heap := ((kCx_e X).1 k hk).1
theorem k_getCS (X : kCx p R s m args c cc RJ0 nL N kd D cA ad sa) (d : decode cc pc = .ok (.getstatic 38, 3)) (kk : kAt p l e R s m args below meth c Q nL N kd D cA ad (pc + 3) lv (kI 1 :: st) z) : kAt p l e R s m args below meth c Q nL N kd D cA ad pc lv st z := fun H locs ls hP hS hl => va_gets X.1 X.2.1 (kCx_e X).2.2.1 hS X.2.2.2.1 (X.2.2.2.2.1 _ mw707) (fun _ h => h) d (kk H locs ls hP hS hl)
theorem k_getco (X : kCx p R s m args c cc RJ0 nL N kd D cA ad sa) {k : Nat} (hk : k < kstrL.length) (d : decode cc pc = .ok (.getfield 15, 3)) (kk : kAt p l e R s m args below meth c Q nL N kd D cA ad (pc + 3) lv (kI 0 :: st) z) : kAt p l e R s m args below meth c Q nL N kd D cA ad pc lv (.ref (sa k) :: st) z := fun H locs ls hP hS hl => vk_getf X.1 X.2.1 (k_str X hk).2.1 hS X.2.2.2.1 (X.2.2.2.2.1 _ mw1270) (fun _ h => h) d (kk H locs ls hP hS hl)
theorem k_getva (X : kCx p R s m args c cc RJ0 nL N kd D cA ad sa) {k : Nat} (hk : k < kstrL.length) (d : decode cc pc = .ok (.getfield 9, 3)) (kk : kAt p l e R s m args below meth c Q nL N kd D cA ad (pc + 3) lv (.ref (sa (100 + k)) :: st) z) : kAt p l e R s m args below meth c Q nL N kd D cA ad pc lv (.ref (sa k) :: st) z := fun H locs ls hP hS hl => vk_getf X.1 X.2.1 (k_str X hk).2.2.1 hS X.2.2.2.1 (X.2.2.2.2.1 _ mw1271) (fun _ h => h) d (kk H locs ls hP hS hl)
theorem k_vlen (X : kCx p R s m args c cc own nL N kd D cA ad sa) {k : Nat} (hk : k < kstrL.length) (d : decode cc pc = .ok (.arraylength, 1)) (kk : kAt p l e R s m args below meth c Q nL N kd D cA ad (pc + 1) lv (kI ((kTx k).length : Nat) :: st) z) : kAt p l e R s m args below meth c Q nL N kd D cA ad pc lv (.ref (sa (100 + k)) :: st) z := fun H locs ls hP hS hl => va_tlen X.1 X.2.1 (k_str X hk).2.2.2 hS Int32.ofInt_eq_ofNat.symm d (kk H locs ls hP hS hl)
theorem k_vat (X : kCx p R s m args c cc own nL N kd D cA ad sa) {k : Nat} {i : Int} (hk : k < kstrL.length) (hi : inb i (kTx k).length) (d : decode cc pc = .ok (.baload, 1)) (kk : kAt p l e R s m args below meth c Q nL N kd D cA ad (pc + 1) lv (kI ((kTx k).getD i.toNat 0) :: st) z) : kAt p l e R s m args below meth c Q nL N kd D cA ad pc lv (kI i :: .ref (sa (100 + k)) :: st) z := by
  have hn := kTx_len k hk
  exact fun H locs ls hP hS hl => va_tb X.1 X.2.1 (k_str X hk).2.2.2 hS (kI_in hi (by omega)) (by rw [kI_clamp hi (by omega)]) d (kk H locs ls hP hS hl)
theorem k_tret {post : Int → Hp → Prop} {x : Int} {ty : FieldType} (X : kCx p R s m args c cc own nL N kd D cA ad sa) (hr : meth.sig.returnType = some ty) (hk : meth.locks = false) (d : decode cc pc = .ok (.ireturn, 1)) (hn : narrow ty (.int (Int32.ofInt x)) = .int (Int32.ofInt x)) (h : post x z) : kAt p l e R s m args below meth c (MQ below (kQi N kd D cA ad post) args s 0 0 (kA N ad)) nL N kd D cA ad pc lv [kI x] z := by
  intro H locs ls hP hS hl
  exact W.zret (Qc := kQi N kd D cA ad post) (free := kA N ad) (v := Int32.ofInt x) X.1 X.2.1 hr hn (fun t ht hW => ⟨⟨Int32.ofInt x, z, rfl, ⟨x, rfl, h⟩, by show kPic N kd D cA ad z t.heap; rw [ht]; exact hP⟩, hS.F ht⟩) hS.2.2 d hk
theorem k_runVS {y : MethodName} {bytes : ByteArray} {maxL : Nat} {ret : Option FieldType} {dd idx n : Nat} {As : List Value} {Qc : Array Value → State → Outcome → State → Prop} {k : Nat} {H : Heap} {locs : List Loc} {ls : Array Slot} (X : kCx p R s m args c cc own nL N kd D cA ad sa) (L : GoodIn GW (wsV own idx RJ0 y (Cond.code y bytes maxL ret :: GW))) (hC : y.cls = RJ0) (hy : kyOk y n) (hn : As.length = n) (hR : dd + 1 ≤ R.frames ∧ 8 + (maxL + 11) + 64 * dd ≤ R.locals)
    (hM : kMet l y bytes maxL ret dd N kd D cA ad sa (.ref (sa k) :: As) z Qc) (hk : k < kstrL.length) (hst : (st.map fun v => v.category).sum ≤ 8) (d : decode cc pc = .ok (.invokevirtual idx, 3))
    (hP : kPic N kd D cA ad z H) (hS : va_S (kA N ad) s.heap H locs) (hl : lv_has ls nL lv) : va_Run p l e R s m args below meth c H locs 0 0 0 0 (F0 m pc ls (As.reverse ++ .ref (sa k) :: st)) st (Qc (Value.ref (sa k) :: As).toArray) (kA N ad) := by
  have X0 := X
  have hrec : ∃ cell : Cell, H[sa k]? = some cell ∧ cell.vm.isStatics = false ∧ s.vm.findClass RJ0 = some cell.cls := by
    obtain ⟨cell, h1, h2, h3, -⟩ := (k_str X hk).1.kept hS.2.1
    exact ⟨cell, h1, h2, h3⟩
  obtain ⟨x1, x2, x3, x4, x5, x6, x7, x8, x9⟩ := X
  exact va_runV (As := As) (rest := st) (Ts := GW) ⟨x1, x2, x3, x4, x5⟩ hM (cwV n x5 L rfl rfl rfl ⟨hC, hy.1, hy.2.1, hy.2.2⟩ hR) ⟨k_frameBlind, hrec, k_preOf X0 hP hS⟩ rfl hn hl.1 rfl (lv_room hst) d ⟨Nat.zero_le _, Nat.zero_le _⟩
end KJ
theorem lj_coder : GoodIn GW (wsV RJ0 335 RJ0 yJ0_coder_7d493 (Cond.code yJ0_coder_7d493 cJ0_coder_7d493 1 (some .byte) :: GW)) := k_lkV GW_good mw703 mw704 mw705 mw12 mw706
theorem lj_lat : GoodIn GW (wsV RJ0 492 RJ0 yJ0_isLatin1_aae02 (Cond.code yJ0_isLatin1_aae02 cJ0_isLatin1_aae02 1 (some .boolean) :: GW)) := k_lkV GW_good mw712 mw713 mw714 mw12 mw715
theorem lj_l1 : GoodIn GW (Cond.methodLink RJ0 495 yJ1_charAt_3b067 :: Cond.static yJ1_charAt_3b067 :: Cond.initialized yJ1_charAt_3b067.cls :: Cond.code yJ1_charAt_3b067 cJ1_charAt_3b067 2 (some .char) :: GW) := k_lkS GW_good mw716 mw717 mw13 mw718
theorem lj_ci : GoodIn GW (Cond.methodLink RJ1 9 yJ0_checkIndex_df160 :: Cond.static yJ0_checkIndex_df160 :: Cond.initialized yJ0_checkIndex_df160.cls :: Cond.code yJ0_checkIndex_df160 cJ0_checkIndex_df160 2 none :: GW) := k_lkS GW_good mw719 mw720 mw12 mw721
theorem lj_pc : GoodIn GW (Cond.methodLink RJ0 1059 yJ3_checkIndex_8e157 :: Cond.static yJ3_checkIndex_8e157 :: Cond.initialized yJ3_checkIndex_8e157.cls :: Cond.code yJ3_checkIndex_8e157 cJ3_checkIndex_8e157 3 (some .int) :: GW) := k_lkS GW_good mw723 mw724 mw14 mw725
theorem yj_coder : kyOk yJ0_coder_7d493 0 := ⟨by decide +kernel, by decide +kernel, by decide +kernel⟩
theorem yj_lat : kyOk yJ0_isLatin1_aae02 0 := ⟨by decide +kernel, by decide +kernel, by decide +kernel⟩
theorem yj_l1 : kyOk yJ1_charAt_3b067 2 := ⟨by decide +kernel, by decide +kernel, by decide +kernel⟩
theorem yj_ci : kyOk yJ0_checkIndex_df160 2 := ⟨by decide +kernel, by decide +kernel, by decide +kernel⟩
theorem yj_pc : kyOk yJ3_checkIndex_8e157 3 := ⟨by decide +kernel, by decide +kernel, by decide +kernel⟩
theorem yj_len : kyOk yJ0_length_8abf5 0 := ⟨by decide +kernel, by decide +kernel, by decide +kernel⟩
theorem yj_ch : kyOk yJ0_charAt_5068e 1 := ⟨by decide +kernel, by decide +kernel, by decide +kernel⟩
section KJC
variable {l : Launch} {N : Nat} {kd : Nat → Nat × Nat × Nat} {D : va_G} {cA : Nat → ClassId} {ad sa : Nat → Nat}
set_option maxRecDepth 100000 in
theorem cj_coder (hj : kInj N ad) (hkd : kLt N kd) {k : Nat} (hk : k < kstrL.length) (z : Hp) : kMet l yJ0_coder_7d493 cJ0_coder_7d493 1 (some .byte) 0 N kd D cA ad sa [.ref (sa k)] z (kQi N kd D cA ad (fun v z1 => z1 = z ∧ v = 0)) := by
  refine k_met (cc := cJ0_coder_7d493) (own := RJ0) (nL := 1) rfl rfl (Nat.le_of_ble_eq_true rfl) hj hkd (fun p e s m below meth c X hrt hlk => ?_)
  refine k_sub (lv' := [(0, .ref (sa k))]) [0] rfl ?_
  refine k_getCS X dJ0_coder_7d493_0 ?_
  refine k_if_eq (tgt := 13) X dJ0_coder_7d493_3 (by decide) (show rg 1 ∧ if (1 : Int) = 0 then False else True from ⟨⟨by decide, by decide⟩, trivial⟩) (fun h => absurd h id) (fun _ => ?_)
  refine k_aload_n X dJ0_coder_7d493_6 0 rfl ?_
  refine k_getco X hk dJ0_coder_7d493_7 ?_
  refine k_goto (tgt := 14) X dJ0_coder_7d493_10 (by decide) ?_
  exact k_tret X hrt hlk dJ0_coder_7d493_14 (by decide +kernel) ⟨rfl, rfl⟩
set_option maxRecDepth 100000 in
theorem cj_lat (hj : kInj N ad) (hkd : kLt N kd) {k : Nat} (hk : k < kstrL.length) (z : Hp) : kMet l yJ0_isLatin1_aae02 cJ0_isLatin1_aae02 1 (some .boolean) 0 N kd D cA ad sa [.ref (sa k)] z (kQi N kd D cA ad (fun v z1 => z1 = z ∧ v = 1)) := by
  refine k_met (cc := cJ0_isLatin1_aae02) (own := RJ0) (nL := 1) rfl rfl (Nat.le_of_ble_eq_true rfl) hj hkd (fun p e s m below meth c X hrt hlk => ?_)
  refine k_sub (lv' := [(0, .ref (sa k))]) [0] rfl ?_
  refine k_getCS X dJ0_isLatin1_aae02_0 ?_
  refine k_if_eq (tgt := 17) X dJ0_isLatin1_aae02_3 (by decide) (show rg 1 ∧ if (1 : Int) = 0 then False else True from ⟨⟨by decide, by decide⟩, trivial⟩) (fun h => absurd h id) (fun _ => ?_)
  refine k_aload_n X dJ0_isLatin1_aae02_6 0 rfl ?_
  refine k_getco X hk dJ0_isLatin1_aae02_7 ?_
  refine k_if_ne (tgt := 17) X dJ0_isLatin1_aae02_10 (by decide) (show rg 0 ∧ if (0 : Int) = 0 then True else False from ⟨⟨by decide, by decide⟩, trivial⟩) (fun h => absurd h id) (fun _ => ?_)
  refine k_iconst X dJ0_isLatin1_aae02_13 ?_
  refine k_goto (tgt := 18) X dJ0_isLatin1_aae02_14 (by decide) ?_
  exact k_zret X hrt hlk dJ0_isLatin1_aae02_18 ⟨Or.inr rfl, rfl, rfl⟩
set_option maxRecDepth 100000 in
theorem cj_pcN (hj : kInj N ad) (hkd : kLt N kd) {i n : Int} (hi : rg i ∧ rg n ∧ 0 ≤ i ∧ i < n) (z : Hp) : kMet l yJ3_checkIndex_8e157 cJ3_checkIndex_8e157 3 (some .int) 0 N kd D cA ad sa [kI i, kI n, .null] z (kQi N kd D cA ad (fun v z1 => z1 = z)) := by
  refine k_met (cc := cJ3_checkIndex_8e157) (own := RJ3) (nL := 3) rfl rfl (Nat.le_of_ble_eq_true rfl) hj hkd (fun p e s m below meth c X hrt hlk => ?_)
  refine k_sub (lv' := [(0, kI i), (1, kI n)]) [0, 1] rfl ?_
  refine k_iload_n X dJ3_checkIndex_8e157_0 0 rfl ?_
  refine k_if_lt (tgt := 9) X dJ3_checkIndex_8e157_1 (by decide) (show rg i ∧ if i < 0 then False else True from ⟨hi.1, by rw [if_neg (by omega)]; trivial⟩) (fun h => absurd h id) (fun _ => ?_)
  refine k_iload_n X dJ3_checkIndex_8e157_4 0 rfl ?_
  refine k_iload_n X dJ3_checkIndex_8e157_5 1 rfl ?_
  refine k_icmp_lt (tgt := 16) X dJ3_checkIndex_8e157_6 (by decide) (show rg i ∧ rg n ∧ if i < n then True else False from ⟨hi.1, hi.2.1, by rw [if_pos (by omega)]; trivial⟩) (fun _ => ?_) (fun h => absurd h id)
  refine k_iload_n X dJ3_checkIndex_8e157_16 0 rfl ?_
  exact k_iret X hrt hlk dJ3_checkIndex_8e157_17 rfl
set_option maxRecDepth 100000 in
theorem cj_pcR (hj : kInj N ad) (hkd : kLt N kd) {i n : Int} (hi : rg i ∧ rg n ∧ 0 ≤ i ∧ i < n) (t : Nat) (z : Hp) : kMet l yJ3_checkIndex_8e157 cJ3_checkIndex_8e157 3 (some .int) 0 N kd D cA ad sa [kI i, kI n, .ref t] z (kQi N kd D cA ad (fun v z1 => z1 = z)) := by
  refine k_met (cc := cJ3_checkIndex_8e157) (own := RJ3) (nL := 3) rfl rfl (Nat.le_of_ble_eq_true rfl) hj hkd (fun p e s m below meth c X hrt hlk => ?_)
  refine k_sub (lv' := [(0, kI i), (1, kI n)]) [0, 1] rfl ?_
  refine k_iload_n X dJ3_checkIndex_8e157_0 0 rfl ?_
  refine k_if_lt (tgt := 9) X dJ3_checkIndex_8e157_1 (by decide) (show rg i ∧ if i < 0 then False else True from ⟨hi.1, by rw [if_neg (by omega)]; trivial⟩) (fun h => absurd h id) (fun _ => ?_)
  refine k_iload_n X dJ3_checkIndex_8e157_4 0 rfl ?_
  refine k_iload_n X dJ3_checkIndex_8e157_5 1 rfl ?_
  refine k_icmp_lt (tgt := 16) X dJ3_checkIndex_8e157_6 (by decide) (show rg i ∧ rg n ∧ if i < n then True else False from ⟨hi.1, hi.2.1, by rw [if_pos (by omega)]; trivial⟩) (fun _ => ?_) (fun h => absurd h id)
  refine k_iload_n X dJ3_checkIndex_8e157_16 0 rfl ?_
  exact k_iret X hrt hlk dJ3_checkIndex_8e157_17 rfl
set_option maxRecDepth 100000 in
theorem cj_ci (hj : kInj N ad) (hkd : kLt N kd) {i n : Int} (hi : rg i ∧ rg n ∧ 0 ≤ i ∧ i < n) (z : Hp) : kMet l yJ0_checkIndex_df160 cJ0_checkIndex_df160 2 none 1 N kd D cA ad sa [kI i, kI n] z (kQv N kd D cA ad (fun z1 => z1 = z)) := by
  refine k_met (cc := cJ0_checkIndex_df160) (own := RJ0) (nL := 2) rfl rfl (Nat.le_of_ble_eq_true rfl) hj hkd (fun p e s m below meth c X hrt hlk => ?_)
  refine k_sub (lv' := [(0, kI i), (1, kI n)]) [0, 1] rfl ?_
  refine k_iload_n X dJ0_checkIndex_df160_0 0 rfl ?_
  refine k_iload_n X dJ0_checkIndex_df160_1 1 rfl ?_
  rcases (kCx_e X).2.2.2 with hq | ⟨t, hq⟩
  · have KK : kAt p l e (kR 1) s m ([kI i, kI n] : List Value).toArray below meth c (MQ below (kQv N kd D cA ad (fun z1 => z1 = z)) ([kI i, kI n] : List Value).toArray s 0 0 (kA N ad)) 2 N kd D cA ad (2 + 3) [(0, kI i), (1, kI n)] [.null, kI n, kI i] z := by
      refine k_afterI (st := []) (fun H locs ls hP hS hl => k_runS (As := [kI i, kI n, .null]) X lj_pc yj_pc rfl (kR_ok (by decide) (by decide)) (cj_pcN (kCx_j X) (kCx_l X) hi z) (Nat.le_of_ble_eq_true rfl) dJ0_checkIndex_df160_5 hP hS hl) (fun v z1 h => ?_)
      subst h
      refine k_pop X dJ0_checkIndex_df160_8 rfl ?_
      exact k_vret X hrt hlk dJ0_checkIndex_df160_9 rfl
    exact fun H locs ls hP hS hl => va_gets X.1 X.2.1 hq hS X.2.2.2.1 (X.2.2.2.2.1 _ mw722) (fun _ h => h) dJ0_checkIndex_df160_2 (KK H locs ls hP hS hl)
  · have KK : kAt p l e (kR 1) s m ([kI i, kI n] : List Value).toArray below meth c (MQ below (kQv N kd D cA ad (fun z1 => z1 = z)) ([kI i, kI n] : List Value).toArray s 0 0 (kA N ad)) 2 N kd D cA ad (2 + 3) [(0, kI i), (1, kI n)] [.ref t, kI n, kI i] z := by
      refine k_afterI (st := []) (fun H locs ls hP hS hl => k_runS (As := [kI i, kI n, .ref t]) X lj_pc yj_pc rfl (kR_ok (by decide) (by decide)) (cj_pcR (kCx_j X) (kCx_l X) hi t z) (Nat.le_of_ble_eq_true rfl) dJ0_checkIndex_df160_5 hP hS hl) (fun v z1 h => ?_)
      subst h
      refine k_pop X dJ0_checkIndex_df160_8 rfl ?_
      exact k_vret X hrt hlk dJ0_checkIndex_df160_9 rfl
    exact fun H locs ls hP hS hl => va_gets X.1 X.2.1 hq hS X.2.2.2.1 (X.2.2.2.2.1 _ mw722) (fun _ h => h) dJ0_checkIndex_df160_2 (KK H locs ls hP hS hl)
set_option maxRecDepth 100000 in
theorem cj_l1 (hj : kInj N ad) (hkd : kLt N kd) {k : Nat} {i : Int} (hk : k < kstrL.length) (hi : inb i (kTx k).length) (z : Hp) : kMet l yJ1_charAt_3b067 cJ1_charAt_3b067 2 (some .char) 2 N kd D cA ad sa [.ref (sa (100 + k)), kI i] z (kQi N kd D cA ad (fun v z1 => z1 = z ∧ v = (kTx k).getD i.toNat 0)) := by
  have hn := kTx_len k hk
  have h1 := hi.1
  have h2 := hi.2
  obtain ⟨ch, hch, hc8⟩ : ∃ ch : Nat, (kTx k).getD i.toNat 0 = (ch : Int) ∧ ch < 128 := by
    have := kTx_ascii k hk i.toNat (by omega)
    exact ⟨((kTx k).getD i.toNat 0).toNat, by omega, by omega⟩
  refine k_met (cc := cJ1_charAt_3b067) (own := RJ1) (nL := 2) rfl rfl (Nat.le_of_ble_eq_true rfl) hj hkd (fun p e s m below meth c X hrt hlk => ?_)
  refine k_sub (lv' := [(0, .ref (sa (100 + k))), (1, kI i)]) [0, 1] rfl ?_
  refine k_iload_n X dJ1_charAt_3b067_0 1 rfl ?_
  refine k_aload_n X dJ1_charAt_3b067_1 0 rfl ?_
  refine k_vlen X hk dJ1_charAt_3b067_2 ?_
  refine k_afterV (st := []) (fun H locs ls hP hS hl => k_runS (As := [kI i, kI ((kTx k).length : Nat)]) X lj_ci yj_ci rfl (kR_ok (by decide) (by decide)) (cj_ci (kCx_j X) (kCx_l X) ⟨⟨by omega, by omega⟩, ⟨by omega, by omega⟩, h1, h2⟩ z) (Nat.le_of_ble_eq_true rfl) dJ1_charAt_3b067_3 hP hS hl) (fun z1 h => ?_)
  subst h
  refine k_aload_n X dJ1_charAt_3b067_6 0 rfl ?_
  refine k_iload_n X dJ1_charAt_3b067_7 1 rfl ?_
  refine k_vat X hk hi dJ1_charAt_3b067_8 ?_
  refine k_sipush X dJ1_charAt_3b067_9 (by decide +kernel) ?_
  refine k_iand X dJ1_charAt_3b067_12 ?_
  have KK : kAt p l e (kR 2) s m ([.ref (sa (100 + k)), kI i] : List Value).toArray below meth c (MQ below (kQi N kd D cA ad (fun v z2 => z2 = z1 ∧ v = (kTx k).getD i.toNat 0)) ([.ref (sa (100 + k)), kI i] : List Value).toArray s 0 0 (kA N ad)) 2 N kd D cA ad (13 + 1) [(0, .ref (sa (100 + k))), (1, kI i)] [kI ((kTx k).getD i.toNat 0)] z1 := by
    refine k_tret X hrt hlk dJ1_charAt_3b067_14 ?_ ⟨rfl, rfl⟩
    rw [hch]
    exact k_ch2 ch hc8
  exact fun H locs ls hP hS hl => lv_i2c (v := Int32.ofInt ((kTx k).getD i.toNat 0)) X.1 X.2.1 dJ1_charAt_3b067_13 (by rw [hch]; exact k_ch1 ch hc8) (KK H locs ls hP hS hl)
set_option maxRecDepth 100000 in
theorem cj_len (hj : kInj N ad) (hkd : kLt N kd) {k : Nat} (hk : k < kstrL.length) (z : Hp) : kMet l yJ0_length_8abf5 cJ0_length_8abf5 1 (some .int) 2 N kd D cA ad sa [.ref (sa k)] z (kQi N kd D cA ad (fun v z1 => z1 = z ∧ v = ((kTx k).length : Nat))) := by
  have hn := kTx_len k hk
  refine k_met (cc := cJ0_length_8abf5) (own := RJ0) (nL := 1) rfl rfl (Nat.le_of_ble_eq_true rfl) hj hkd (fun p e s m below meth c X hrt hlk => ?_)
  refine k_sub (lv' := [(0, .ref (sa k))]) [0] rfl ?_
  refine k_aload_n X dJ0_length_8abf5_0 0 rfl ?_
  refine k_getva X hk dJ0_length_8abf5_1 ?_
  refine k_vlen X hk dJ0_length_8abf5_4 ?_
  refine k_aload_n X dJ0_length_8abf5_5 0 rfl ?_
  refine k_afterI (st := [kI ((kTx k).length : Nat)]) (fun H locs ls hP hS hl => k_runVS (As := []) X lj_coder rfl yj_coder rfl (kR_ok (by decide) (by decide)) (cj_coder (kCx_j X) (kCx_l X) hk z) hk (Nat.le_of_ble_eq_true rfl) dJ0_length_8abf5_6 hP hS hl) (fun v z1 h => ?_)
  obtain ⟨rfl, rfl⟩ := h
  refine k_ishr X dJ0_length_8abf5_9 ?_
  have e0 : ishr ((kTx k).length : Nat) 0 = ((kTx k).length : Nat) := by
    generalize (kTx k).length = n at hn ⊢
    exact (show ∀ n : Nat, n < 100 → ishr (n : Nat) 0 = (n : Nat) by decide +kernel) n hn
  rw [e0]
  exact k_iret X hrt hlk dJ0_length_8abf5_10 ⟨rfl, rfl⟩
set_option maxRecDepth 100000 in
theorem cj_chr (hj : kInj N ad) (hkd : kLt N kd) {k : Nat} {i : Int} (hk : k < kstrL.length) (hi : inb i (kTx k).length) (z : Hp) : kMet l yJ0_charAt_5068e cJ0_charAt_5068e 2 (some .char) 4 N kd D cA ad sa [.ref (sa k), kI i] z (kQi N kd D cA ad (fun v z1 => z1 = z ∧ v = (kTx k).getD i.toNat 0)) := by
  have hn := kTx_len k hk
  have h1 := hi.1
  have h2 := hi.2
  obtain ⟨ch, hch, hc8⟩ : ∃ ch : Nat, (kTx k).getD i.toNat 0 = (ch : Int) ∧ ch < 128 := by
    have := kTx_ascii k hk i.toNat (by omega)
    exact ⟨((kTx k).getD i.toNat 0).toNat, by omega, by omega⟩
  refine k_met (cc := cJ0_charAt_5068e) (own := RJ0) (nL := 2) rfl rfl (Nat.le_of_ble_eq_true rfl) hj hkd (fun p e s m below meth c X hrt hlk => ?_)
  refine k_sub (lv' := [(0, .ref (sa k)), (1, kI i)]) [0, 1] rfl ?_
  refine k_aload_n X dJ0_charAt_5068e_0 0 rfl ?_
  refine k_afterI (st := []) (fun H locs ls hP hS hl => k_runVS (As := []) X lj_lat rfl yj_lat rfl (kR_ok (by decide) (by decide)) (cj_lat (kCx_j X) (kCx_l X) hk z) hk (Nat.le_of_ble_eq_true rfl) dJ0_charAt_5068e_1 hP hS hl) (fun v z1 h => ?_)
  obtain ⟨rfl, rfl⟩ := h
  refine k_if_eq (tgt := 16) X dJ0_charAt_5068e_4 (by decide) (show rg 1 ∧ if (1 : Int) = 0 then False else True from ⟨⟨by decide, by decide⟩, trivial⟩) (fun h => absurd h id) (fun _ => ?_)
  refine k_aload_n X dJ0_charAt_5068e_7 0 rfl ?_
  refine k_getva X hk dJ0_charAt_5068e_8 ?_
  refine k_iload_n X dJ0_charAt_5068e_11 1 rfl ?_
  refine k_afterI (st := []) (fun H locs ls hP hS hl => k_runS (As := [.ref (sa (100 + k)), kI i]) X lj_l1 yj_l1 rfl (kR_ok (by decide) (by decide)) (cj_l1 (kCx_j X) (kCx_l X) hk hi z1) (Nat.le_of_ble_eq_true rfl) dJ0_charAt_5068e_12 hP hS hl) (fun v z2 h => ?_)
  obtain ⟨rfl, rfl⟩ := h
  refine k_tret X hrt hlk dJ0_charAt_5068e_15 ?_ ⟨rfl, rfl⟩
  rw [hch]
  exact k_ch2 ch hc8
end KJC
section KJ2
variable {p : Program} {l : Launch} {e : Env} {R : Room} {s : State} {m : MethodId} {args : Array Value} {below : List Frame} {meth : Method} {c : Code} {Q : State → Prop}
variable {cc : ByteArray} {own : String} {nL N : Nat} {kd : Nat → Nat × Nat × Nat} {D : va_G} {cA : Nat → ClassId} {ad sa : Nat → Nat}
variable {pc : Nat} {lv : List (Nat × Value)} {st : List Value} {z : Hp}
theorem k_slen (X : kCx p R s m args c cc own nL N kd D cA ad sa) {idx k : Nat} (L : GoodIn GW (wsV own idx RJ0 yJ0_length_8abf5 (Cond.code yJ0_length_8abf5 cJ0_length_8abf5 1 (some .int) :: GW))) (hk : k < kstrL.length) (hR : 2 + 1 ≤ R.frames ∧ 8 + (1 + 11) + 64 * 2 ≤ R.locals) (hst : (st.map fun v => v.category).sum ≤ 8) (d : decode cc pc = .ok (.invokevirtual idx, 3)) (kk : kAt p l e R s m args below meth c Q nL N kd D cA ad (pc + 3) lv (kI ((kTx k).length : Nat) :: st) z) : kAt p l e R s m args below meth c Q nL N kd D cA ad pc lv (.ref (sa k) :: st) z := by
  refine k_afterI (st := st) (fun H locs ls hP hS hl => k_runVS (As := []) X L rfl yj_len rfl hR (cj_len (kCx_j X) (kCx_l X) hk z) hk hst d hP hS hl) (fun v z1 h => ?_)
  obtain ⟨rfl, rfl⟩ := h
  exact kk
theorem k_schar (X : kCx p R s m args c cc own nL N kd D cA ad sa) {idx k : Nat} {i : Int} {P : Prop} (L : GoodIn GW (wsV own idx RJ0 yJ0_charAt_5068e (Cond.code yJ0_charAt_5068e cJ0_charAt_5068e 2 (some .char) :: GW))) (hk : k < kstrL.length) (hR : 4 + 1 ≤ R.frames ∧ 8 + (2 + 11) + 64 * 4 ≤ R.locals) (hst : (st.map fun v => v.category).sum ≤ 8) (d : decode cc pc = .ok (.invokevirtual idx, 3)) (h : inb i (kTx k).length ∧ P) (kk : P → kAt p l e R s m args below meth c Q nL N kd D cA ad (pc + 3) lv (kI ((kTx k).getD i.toNat 0) :: st) z) : kAt p l e R s m args below meth c Q nL N kd D cA ad pc lv (kI i :: .ref (sa k) :: st) z := by
  refine k_afterI (st := st) (fun H locs ls hP hS hl => k_runVS (As := [kI i]) X L rfl yj_ch rfl hR (cj_chr (kCx_j X) (kCx_l X) hk h.1 z) hk hst d hP hS hl) (fun v z1 hh => ?_)
  obtain ⟨rfl, rfl⟩ := hh
  exact kk h.2
end KJ2
