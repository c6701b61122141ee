/-! the reference's constructor: it works once at its end -/
theorem kEnv.narrow {A B : Nat → Prop} {sa : Nat → Nat} {U : State} {H : Heap} (h : kEnv A sa U H) (hAB : ∀ q, B q → A q) : kEnv B sa U H := by
  obtain ⟨h1, ⟨t, h2, h3⟩, h4, h5⟩ := h
  exact ⟨fun k hk => ⟨(h1 k hk).1.narrow hAB, (h1 k hk).2⟩, ⟨t, h2.narrow hAB, h3.narrow hAB⟩, h4.narrow hAB, h5.narrow hAB⟩
theorem kW_D {N : Nat} {kd : Nat → Nat × Nat × Nat} {cA : Nat → ClassId} {ad : Nat → Nat} {A : Nat → Prop} {z z' : Hp} (h : va_D A (kW N kd cA ad z)) : va_D A (kW N kd cA ad z') := by
  have lt : ∀ (z : Hp) (i : Nat) (p : Nat × va_E), (kW N kd cA ad z)[i]? = some p → i < N ∧ p.1 = ad i := fun z i p h => by
    have hl : i < N := by have := (List.getElem?_eq_some_iff.mp h).1; simpa [kW] using this
    rw [kW_get hl] at h
    cases h
    exact ⟨hl, rfl⟩
  refine ⟨fun i j p q hi hj e => ?_, fun k q hq => ?_⟩
  · obtain ⟨a1, a2⟩ := lt z' i p hi
    obtain ⟨b1, b2⟩ := lt z' j q hj
    exact h.1 i j _ _ (kW_get a1) (kW_get b1) (by show ad i = ad j; rw [← a2, ← b2, e])
  · obtain ⟨a1, a2⟩ := lt z' k q hq
    rw [a2]
    exact h.2 k _ (kW_get a1)
theorem kW_inj {N : Nat} {kd : Nat → Nat × Nat × Nat} {cA : Nat → ClassId} {ad : Nat → Nat} {A : Nat → Prop} {z : Hp} (h : va_D A (kW N kd cA ad z)) : kInj N ad := fun i j hi hj e => h.1 i j _ _ (kW_get hi) (kW_get hj) e
theorem kW_A {N : Nat} {kd : Nat → Nat × Nat × Nat} {cA : Nat → ClassId} {ad : Nat → Nat} {A : Nat → Prop} {z : Hp} (h : va_D A (kW N kd cA ad z)) : ∀ q, kA N ad q → A q := fun q ⟨c, hc, e⟩ => by rw [e]; exact h.2 c _ (kW_get hc)
section CM
variable {p : Program} {l : Launch} {e : Env} {R : Room} {s : State} {m : MethodId} {args : Array Value} {below : List Frame} {meth : Method} {c : Code} {Q : State → Prop}
variable {cc : ByteArray} {own : String} {nL : Nat} {D : va_G} {cA : Nat → ClassId} {A : Nat → Prop}
variable {pc cn sn : Nat} {lv : List (Nat × Value)} {st : List Value} {ws : va_W}
/-- a void method on the whole object, out of a constructor's walk -/
theorem c_callM (X : cCx p s m args meth c cc own nL D cA A) {sa : Nat → Nat} (hE : kEnv A sa s s.heap) {y : MethodName} {bytes : ByteArray} {maxL dd idx N ci nf h0 : Nat} {C : String} {T : u_T} {kd : Nat → Nat × Nat × Nat} {ad : Nat → Nat} {z : Hp} {Kp : Hp → Prop} (L : GoodIn GW (wsV own idx C y (Cond.code y bytes maxL none :: GW))) (hC : y.cls = C) (hy : kyOk y 0) (hk0 : kd 0 = (0, ci, nf)) (hc : vwCl[ci]? = some (C, T, nf)) (hN : 0 < N) (h0e : ad 0 = h0) (hall : ∀ H, va_P D vwCl ws H → va_D A ws → va_P D vwCl (kW N kd cA ad z) H ∧ va_D A (kW N kd cA ad z)) (hM : kInj N ad → kMet l y bytes maxL none dd N kd D cA ad sa [.ref (ad 0)] z (kQv N kd D cA ad Kp)) (hR : dd + 1 ≤ R.frames ∧ 8 + (maxL + 11) + 64 * dd ≤ R.locals) (hst : (st.map fun v => v.category).sum ≤ 8) (hcc : cn ≤ R.cells) (hss : sn ≤ R.slots) (d : decode cc pc = .ok (.invokevirtual idx, 3))
    (kk : ∀ z', Kp z' → cAt p l e R s m args below meth c Q nL D A (pc + 3) lv st (kW N kd cA ad z') cn sn) : cAt p l e R s m args below meth c Q nL D A pc lv (.ref h0 :: st) ws cn sn := by
  intro H locs ls hP hD hS hl
  obtain ⟨hP', hD'⟩ := hall H hP hD
  obtain ⟨x1, x2, x3, x4, x5, x6, x7, x8, x9⟩ := X
  subst h0e
  have hj := kW_inj hD'
  have hka := kW_A hD'
  have hpre : ∀ U : State, U.heap = H → s.WarmedH U.vm → kPc N kd D cA ad sa [.ref (ad 0)] z ([.ref (ad 0)] : List Value).toArray U := fun U hU hW =>
    ⟨rfl, by rw [hU]; exact hP', va_K.moved hW.alike x6, by rw [hU]; exact kEnv.moved hW ((kEnv.kept hE hS.2.1).narrow hka)⟩
  refine va_callv (va_runV (As := []) (rest := st) (Ts := GW) (mc := 0) (ms := 0) (g := F0 m pc ls (.ref (ad 0) :: st)) ⟨x1, x2, x3, x4, x5⟩ (hM hj) (cwV 0 x5 L rfl rfl rfl ⟨hC, hy.1, hy.2.1, hy.2.2⟩ hR) ⟨k_frameBlind, va_recv x6 hP' hc (by rw [kW_get hN, kcell_o hk0]), hpre⟩ rfl rfl hl.1 rfl (lv_room hst) d ⟨hcc, hss⟩) hS (fun q _ h => hka q h) hka (fun u t H1 locs1 ht hvm hp hB hz hk hS1 => ?_)
  rw [ht] at hB
  exact kk u hp H1 locs1 ls hB (kW_D hD') hS1 hl
end CM
/-- the model's first numbers -/
theorem zM0_of {f g : Hp} (hf : ∀ c j, f c j = 0) (hg : ∀ c j, g c j = 0) : ∀ c, c < 17 + 1 + 1 → ∀ j, zM0 (c + 1) j = glue (17 + 1) (glue 17 f (fun _ => fun j => if j < 4 then -1 else 0)) g c j := by
  intro c hc j
  by_cases q : c < 17
  · rw [glue_l (by omega), glue_l q, hf]
    exact if_neg (fun g => by have := g.1; omega)
  · by_cases q1 : c < 17 + 1
    · have e : c = 17 + 0 := by omega
      rw [glue_l q1, e, glue_r]
      by_cases h4 : j < 4
      · exact (if_pos ⟨rfl, h4⟩).trans (if_pos h4).symm
      · exact (if_neg (fun g => h4 g.2)).trans (if_neg h4).symm
    · have e : c = 17 + 1 + 0 := by omega
      rw [e, glue_r, hg]
      exact if_neg (fun g => by have := g.1; omega)
def kMP (D : va_G) (cA sa : Nat → Nat) (h0 : Nat) (blank : va_E) (sz : Nat) : Array Value → State → Prop := va_Pc [.ref h0] (fun U => U.heap.size = sz ∧ va_P D vwCl [(h0, blank)] U.heap ∧ va_K D vwCl (kTys cA) U ∧ va_D (fun _ => True) [(h0, blank)] ∧ cX U ∧ kEnv (va_A [(h0, blank)] sz) sa U U.heap)
def kMQ (D : va_G) (cA : Nat → Nat) (h0 : Nat) (A : Nat → Prop) (Kp : Hp → Prop) : Array Value → State → Outcome → State → Prop := va_Qv (fun u : (Nat → Nat) × Hp => u.1 0 = h0 ∧ Kp u.2) (fun u t => va_P D vwCl (kW NM kdM cA u.1 u.2) t.heap ∧ va_D A (kW NM kdM cA u.1 u.2)) A
theorem cm_blind {D : va_G} {cA sa : Nat → Nat} {h0 sz : Nat} {blank : va_E} : FrameBlind (kMP D cA sa h0 blank sz) := by
  intro a U g mk q
  obtain ⟨q0, q1, q2, q3, q4, q5, q6⟩ := q
  exact ⟨q0, q1, q2, va_K.moved (u := U) (U := U.calling g mk a) (Vm.Alike.refl U.vm) q3, q4, cX.same (u := U) (U := U.calling g mk a) rfl q5, kEnv.same (u := U) (U := U.calling g mk a) rfl q6⟩
abbrev blkM : va_E := (.inr (9, [.null, .null, .int 0, .null, .null, .null, .int 0, .int 0, .int 0, .int 0, .null, .null, .null, .null, .null, .null, .null, .int 0, .int 0, .int 0, .int 0, .int 0, .null, .null, .null, .null, .null, .int 0, .int 0, .null, .null]))
set_option maxHeartbeats 4000000 in
set_option maxRecDepth 100000 in
theorem con_X10 {l : Launch} (D : va_G) (cA sa : Nat → Nat) (h0 sz : Nat) (Kp : Hp → Prop) (h : cal_X10_works zM0 Kp) : Met l yX10_init (Cond.code yX10_init cX10_init 2 none :: GW) (kCR 5 19 3106) (kMP D cA sa h0 blkM sz) (kMQ D cA h0 (va_A [(h0, blkM)] sz) Kp) 19 3106 (va_A [(h0, blkM)] sz) := by
  refine Met.ofW (cc := cX10_init) (maxL := 2) (ret := none) rfl rfl ?_
  intro p e s m args below meth c s₁ B hml hv
  obtain ⟨rfl, hsz, hP, hK, hD0, hX, hE⟩ := hv
  subst hsz
  have hts := atoms_spec (ws := Cond.code yX10_init cX10_init 2 none :: GW) B.pre
  have hown : s.vm.findClass RX10 = some m.cls := findClass_of_methodNamed B.named
  have hin : meth.name = "<init>" := (name_of_methodNamed B.named B.method).1
  have hrt := B.returns
  have hlk := B.notSynchronized
  have hD := hD0.self (sz := s.heap.size)
  have hA : ∀ q : Nat, s.heap.size ≤ q → va_A [(h0, blkM)] s.heap.size q := fun q h => Or.inr h
  have X : cCx p s m (([.ref h0] : List Value).toArray) meth c cX10_init RX10 2 D cA (va_A [(h0, blkM)] s.heap.size) := ⟨B.exec, B.bytes, hml, hown, fun w hw => hts w (List.mem_cons_of_mem _ hw), hK, hA, hin, hX⟩
  have hl := lv_entry ([.ref h0]) (n := 2) (Nat.le_of_ble_eq_true rfl)
  rw [lg_entry_eq]
  generalize hAe : va_A [(h0, blkM)] s.heap.size = A at *
  have body : cAt p l e (kCR 5 19 3106) s m (([.ref h0] : List Value).toArray) below meth c (MQ below (kMQ D cA h0 A Kp) (([.ref h0] : List Value).toArray) s 19 3106 A) 2 D A 0 (lv_args 0 [.ref h0]) [] [(h0, blkM)] 0 0 := by
    refine c_sub (lv' := [(0, .ref h0)]) [0] rfl ?_
    refine c_aload_n X dX10_init_0 0 rfl ?_
    refine c_obj X mw863 dX10_init_1 (kCR_one (by decide)) (Nat.le_of_ble_eq_true rfl) ?_
    refine c_eq (ws' := (h0, .inr (9, [.null, .null, .int 0, .null, .null, .null, .int 0, .int 0, .int 0, .int 0, .null, .null, .null, .null, .null, .null, .null, .int 0, .int 0, .int 0, .int 0, .int 0, .null, .null, .null, .null, .null, .int 0, .int 0, .null, .null])) :: ([])) rfl ?_
    refine c_aload_n X dX10_init_4 0 rfl ?_
    refine c_sipush X dX10_init_5 (by decide +kernel) ?_
    refine c_newi (n := 608) X (by decide) (Nat.le_of_ble_eq_true rfl) (Nat.le_of_ble_eq_true rfl) dX10_init_8 (fun q1 => ?_)
    refine c_eq (ws' := (h0, .inr (9, [.null, .null, .int 0, .null, .null, .null, .int 0, .int 0, .int 0, .int 0, .null, .null, .null, .null, .null, .null, .null, .int 0, .int 0, .int 0, .int 0, .int 0, .null, .null, .null, .null, .null, .int 0, .int 0, .null, .null])) :: ([(q1, .inl (cA 0, 608, .inl (fun _ => 0)))])) rfl ?_
    refine c_putF (fs' := [.ref q1, .null, .int 0, .null, .null, .null, .int 0, .int 0, .int 0, .int 0, .null, .null, .null, .null, .null, .null, .null, .int 0, .int 0, .int 0, .int 0, .int 0, .null, .null, .null, .null, .null, .int 0, .int 0, .null, .null]) X ff_X10_11 (Nat.le_of_ble_eq_true rfl) rfl dX10_init_10 ?_
    refine c_aload_n X dX10_init_13 0 rfl ?_
    refine c_sipush X dX10_init_14 (by decide +kernel) ?_
    refine c_newi (n := 608) X (by decide) (Nat.le_of_ble_eq_true rfl) (Nat.le_of_ble_eq_true rfl) dX10_init_17 (fun q2 => ?_)
    refine c_cons ?_
    refine c_putF (fs' := [.ref q1, .ref q2, .int 0, .null, .null, .null, .int 0, .int 0, .int 0, .int 0, .null, .null, .null, .null, .null, .null, .null, .int 0, .int 0, .int 0, .int 0, .int 0, .null, .null, .null, .null, .null, .int 0, .int 0, .null, .null]) X ff_X10_15 (Nat.le_of_ble_eq_true rfl) rfl dX10_init_19 ?_
    refine c_aload_n X dX10_init_22 0 rfl ?_
    refine c_bipush X dX10_init_23 (by decide +kernel) ?_
    refine c_newi (n := 60) X (by decide) (Nat.le_of_ble_eq_true rfl) (Nat.le_of_ble_eq_true rfl) dX10_init_25 (fun q3 => ?_)
    refine c_cons ?_
    refine c_putF (fs' := [.ref q1, .ref q2, .int 0, .ref q3, .null, .null, .int 0, .int 0, .int 0, .int 0, .null, .null, .null, .null, .null, .null, .null, .int 0, .int 0, .int 0, .int 0, .int 0, .null, .null, .null, .null, .null, .int 0, .int 0, .null, .null]) X ff_X10_18 (Nat.le_of_ble_eq_true rfl) rfl dX10_init_27 ?_
    refine c_aload_n X dX10_init_30 0 rfl ?_
    refine c_sipush X dX10_init_31 (by decide +kernel) ?_
    refine c_newi (n := 640) X (by decide) (Nat.le_of_ble_eq_true rfl) (Nat.le_of_ble_eq_true rfl) dX10_init_34 (fun q4 => ?_)
    refine c_cons ?_
    refine c_putF (fs' := [.ref q1, .ref q2, .int 0, .ref q3, .ref q4, .null, .int 0, .int 0, .int 0, .int 0, .null, .null, .null, .null, .null, .null, .null, .int 0, .int 0, .int 0, .int 0, .int 0, .null, .null, .null, .null, .null, .int 0, .int 0, .null, .null]) X ff_X10_21 (Nat.le_of_ble_eq_true rfl) rfl dX10_init_36 ?_
    refine c_aload_n X dX10_init_39 0 rfl ?_
    refine c_bipush X dX10_init_40 (by decide +kernel) ?_
    refine c_newi (n := 6) X (by decide) (Nat.le_of_ble_eq_true rfl) (Nat.le_of_ble_eq_true rfl) dX10_init_42 (fun q5 => ?_)
    refine c_cons ?_
    refine c_putF (fs' := [.ref q1, .ref q2, .int 0, .ref q3, .ref q4, .ref q5, .int 0, .int 0, .int 0, .int 0, .null, .null, .null, .null, .null, .null, .null, .int 0, .int 0, .int 0, .int 0, .int 0, .null, .null, .null, .null, .null, .int 0, .int 0, .null, .null]) X ff_X10_24 (Nat.le_of_ble_eq_true rfl) rfl dX10_init_44 ?_
    refine c_aload_n X dX10_init_47 0 rfl ?_
    refine c_bipush X dX10_init_48 (by decide +kernel) ?_
    refine c_newi (n := 30) X (by decide) (Nat.le_of_ble_eq_true rfl) (Nat.le_of_ble_eq_true rfl) dX10_init_50 (fun q6 => ?_)
    refine c_cons ?_
    refine c_putF (fs' := [.ref q1, .ref q2, .int 0, .ref q3, .ref q4, .ref q5, .int 0, .int 0, .int 0, .int 0, .ref q6, .null, .null, .null, .null, .null, .null, .int 0, .int 0, .int 0, .int 0, .int 0, .null, .null, .null, .null, .null, .int 0, .int 0, .null, .null]) X ff_X10_27 (Nat.le_of_ble_eq_true rfl) rfl dX10_init_52 ?_
    refine c_aload_n X dX10_init_55 0 rfl ?_
    refine c_bipush X dX10_init_56 (by decide +kernel) ?_
    refine c_newi (n := 30) X (by decide) (Nat.le_of_ble_eq_true rfl) (Nat.le_of_ble_eq_true rfl) dX10_init_58 (fun q7 => ?_)
    refine c_cons ?_
    refine c_putF (fs' := [.ref q1, .ref q2, .int 0, .ref q3, .ref q4, .ref q5, .int 0, .int 0, .int 0, .int 0, .ref q6, .ref q7, .null, .null, .null, .null, .null, .int 0, .int 0, .int 0, .int 0, .int 0, .null, .null, .null, .null, .null, .int 0, .int 0, .null, .null]) X ff_X10_30 (Nat.le_of_ble_eq_true rfl) rfl dX10_init_60 ?_
    refine c_aload_n X dX10_init_63 0 rfl ?_
    refine c_bipush X dX10_init_64 (by decide +kernel) ?_
    refine c_newi (n := 30) X (by decide) (Nat.le_of_ble_eq_true rfl) (Nat.le_of_ble_eq_true rfl) dX10_init_66 (fun q8 => ?_)
    refine c_cons ?_
    refine c_putF (fs' := [.ref q1, .ref q2, .int 0, .ref q3, .ref q4, .ref q5, .int 0, .int 0, .int 0, .int 0, .ref q6, .ref q7, .ref q8, .null, .null, .null, .null, .int 0, .int 0, .int 0, .int 0, .int 0, .null, .null, .null, .null, .null, .int 0, .int 0, .null, .null]) X ff_X10_33 (Nat.le_of_ble_eq_true rfl) rfl dX10_init_68 ?_
    refine c_aload_n X dX10_init_71 0 rfl ?_
    refine c_bipush X dX10_init_72 (by decide +kernel) ?_
    refine c_newi (n := 30) X (by decide) (Nat.le_of_ble_eq_true rfl) (Nat.le_of_ble_eq_true rfl) dX10_init_74 (fun q9 => ?_)
    refine c_cons ?_
    refine c_putF (fs' := [.ref q1, .ref q2, .int 0, .ref q3, .ref q4, .ref q5, .int 0, .int 0, .int 0, .int 0, .ref q6, .ref q7, .ref q8, .ref q9, .null, .null, .null, .int 0, .int 0, .int 0, .int 0, .int 0, .null, .null, .null, .null, .null, .int 0, .int 0, .null, .null]) X ff_X10_36 (Nat.le_of_ble_eq_true rfl) rfl dX10_init_76 ?_
    refine c_aload_n X dX10_init_79 0 rfl ?_
    refine c_sipush X dX10_init_80 (by decide +kernel) ?_
    refine c_newi (n := 240) X (by decide) (Nat.le_of_ble_eq_true rfl) (Nat.le_of_ble_eq_true rfl) dX10_init_83 (fun q10 => ?_)
    refine c_cons ?_
    refine c_putF (fs' := [.ref q1, .ref q2, .int 0, .ref q3, .ref q4, .ref q5, .int 0, .int 0, .int 0, .int 0, .ref q6, .ref q7, .ref q8, .ref q9, .ref q10, .null, .null, .int 0, .int 0, .int 0, .int 0, .int 0, .null, .null, .null, .null, .null, .int 0, .int 0, .null, .null]) X ff_X10_39 (Nat.le_of_ble_eq_true rfl) rfl dX10_init_85 ?_
    refine c_aload_n X dX10_init_88 0 rfl ?_
    refine c_sipush X dX10_init_89 (by decide +kernel) ?_
    refine c_newi (n := 240) X (by decide) (Nat.le_of_ble_eq_true rfl) (Nat.le_of_ble_eq_true rfl) dX10_init_92 (fun q11 => ?_)
    refine c_cons ?_
    refine c_putF (fs' := [.ref q1, .ref q2, .int 0, .ref q3, .ref q4, .ref q5, .int 0, .int 0, .int 0, .int 0, .ref q6, .ref q7, .ref q8, .ref q9, .ref q10, .ref q11, .null, .int 0, .int 0, .int 0, .int 0, .int 0, .null, .null, .null, .null, .null, .int 0, .int 0, .null, .null]) X ff_X10_42 (Nat.le_of_ble_eq_true rfl) rfl dX10_init_94 ?_
    refine c_aload_n X dX10_init_97 0 rfl ?_
    refine c_sipush X dX10_init_98 (by decide +kernel) ?_
    refine c_newi (n := 240) X (by decide) (Nat.le_of_ble_eq_true rfl) (Nat.le_of_ble_eq_true rfl) dX10_init_101 (fun q12 => ?_)
    refine c_cons ?_
    refine c_putF (fs' := [.ref q1, .ref q2, .int 0, .ref q3, .ref q4, .ref q5, .int 0, .int 0, .int 0, .int 0, .ref q6, .ref q7, .ref q8, .ref q9, .ref q10, .ref q11, .ref q12, .int 0, .int 0, .int 0, .int 0, .int 0, .null, .null, .null, .null, .null, .int 0, .int 0, .null, .null]) X ff_X10_45 (Nat.le_of_ble_eq_true rfl) rfl dX10_init_103 ?_
    refine c_aload_n X dX10_init_106 0 rfl ?_
    refine c_bipush X dX10_init_107 (by decide +kernel) ?_
    refine c_newi (n := 30) X (by decide) (Nat.le_of_ble_eq_true rfl) (Nat.le_of_ble_eq_true rfl) dX10_init_109 (fun q13 => ?_)
    refine c_cons ?_
    refine c_putF (fs' := [.ref q1, .ref q2, .int 0, .ref q3, .ref q4, .ref q5, .int 0, .int 0, .int 0, .int 0, .ref q6, .ref q7, .ref q8, .ref q9, .ref q10, .ref q11, .ref q12, .int 0, .int 0, .int 0, .int 0, .int 0, .ref q13, .null, .null, .null, .null, .int 0, .int 0, .null, .null]) X ff_X10_48 (Nat.le_of_ble_eq_true rfl) rfl dX10_init_111 ?_
    refine c_aload_n X dX10_init_114 0 rfl ?_
    refine c_bipush X dX10_init_115 (by decide +kernel) ?_
    refine c_newi (n := 30) X (by decide) (Nat.le_of_ble_eq_true rfl) (Nat.le_of_ble_eq_true rfl) dX10_init_117 (fun q14 => ?_)
    refine c_cons ?_
    refine c_putF (fs' := [.ref q1, .ref q2, .int 0, .ref q3, .ref q4, .ref q5, .int 0, .int 0, .int 0, .int 0, .ref q6, .ref q7, .ref q8, .ref q9, .ref q10, .ref q11, .ref q12, .int 0, .int 0, .int 0, .int 0, .int 0, .ref q13, .ref q14, .null, .null, .null, .int 0, .int 0, .null, .null]) X ff_X10_51 (Nat.le_of_ble_eq_true rfl) rfl dX10_init_119 ?_
    refine c_aload_n X dX10_init_122 0 rfl ?_
    refine c_bipush X dX10_init_123 (by decide +kernel) ?_
    refine c_newi (n := 60) X (by decide) (Nat.le_of_ble_eq_true rfl) (Nat.le_of_ble_eq_true rfl) dX10_init_125 (fun q15 => ?_)
    refine c_cons ?_
    refine c_putF (fs' := [.ref q1, .ref q2, .int 0, .ref q3, .ref q4, .ref q5, .int 0, .int 0, .int 0, .int 0, .ref q6, .ref q7, .ref q8, .ref q9, .ref q10, .ref q11, .ref q12, .int 0, .int 0, .int 0, .int 0, .int 0, .ref q13, .ref q14, .ref q15, .null, .null, .int 0, .int 0, .null, .null]) X ff_X10_54 (Nat.le_of_ble_eq_true rfl) rfl dX10_init_127 ?_
    refine c_aload_n X dX10_init_130 0 rfl ?_
    refine c_bipush X dX10_init_131 (by decide +kernel) ?_
    refine c_newi (n := 30) X (by decide) (Nat.le_of_ble_eq_true rfl) (Nat.le_of_ble_eq_true rfl) dX10_init_133 (fun q16 => ?_)
    refine c_cons ?_
    refine c_putF (fs' := [.ref q1, .ref q2, .int 0, .ref q3, .ref q4, .ref q5, .int 0, .int 0, .int 0, .int 0, .ref q6, .ref q7, .ref q8, .ref q9, .ref q10, .ref q11, .ref q12, .int 0, .int 0, .int 0, .int 0, .int 0, .ref q13, .ref q14, .ref q15, .ref q16, .null, .int 0, .int 0, .null, .null]) X ff_X10_57 (Nat.le_of_ble_eq_true rfl) rfl dX10_init_135 ?_
    refine c_aload_n X dX10_init_138 0 rfl ?_
    refine c_bipush X dX10_init_139 (by decide +kernel) ?_
    refine c_newi (n := 30) X (by decide) (Nat.le_of_ble_eq_true rfl) (Nat.le_of_ble_eq_true rfl) dX10_init_141 (fun q17 => ?_)
    refine c_cons ?_
    refine c_putF (fs' := [.ref q1, .ref q2, .int 0, .ref q3, .ref q4, .ref q5, .int 0, .int 0, .int 0, .int 0, .ref q6, .ref q7, .ref q8, .ref q9, .ref q10, .ref q11, .ref q12, .int 0, .int 0, .int 0, .int 0, .int 0, .ref q13, .ref q14, .ref q15, .ref q16, .ref q17, .int 0, .int 0, .null, .null]) X ff_X10_60 (Nat.le_of_ble_eq_true rfl) rfl dX10_init_143 ?_
    refine c_aload_n X dX10_init_146 0 rfl ?_
    refine c_iconst X dX10_init_147 ?_
    refine c_newi (n := 4) X (by decide) (Nat.le_of_ble_eq_true rfl) (Nat.le_of_ble_eq_true rfl) dX10_init_148 (fun q18 => ?_)
    refine c_cons ?_
    refine c_putF (fs' := [.ref q1, .ref q2, .int 0, .ref q3, .ref q4, .ref q5, .int 0, .int 0, .int 0, .int 0, .ref q6, .ref q7, .ref q8, .ref q9, .ref q10, .ref q11, .ref q12, .int 0, .int 0, .int 0, .int 0, .int 0, .ref q13, .ref q14, .ref q15, .ref q16, .ref q17, .int 0, .int 0, .ref q18, .null]) X ff_X10_63 (Nat.le_of_ble_eq_true rfl) rfl dX10_init_150 ?_
    refine c_aload_n X dX10_init_153 0 rfl ?_
    refine c_sipush X dX10_init_154 (by decide +kernel) ?_
    refine c_newi (n := 160) X (by decide) (Nat.le_of_ble_eq_true rfl) (Nat.le_of_ble_eq_true rfl) dX10_init_157 (fun q19 => ?_)
    refine c_cons ?_
    refine c_putF (fs' := [.ref q1, .ref q2, .int 0, .ref q3, .ref q4, .ref q5, .int 0, .int 0, .int 0, .int 0, .ref q6, .ref q7, .ref q8, .ref q9, .ref q10, .ref q11, .ref q12, .int 0, .int 0, .int 0, .int 0, .int 0, .ref q13, .ref q14, .ref q15, .ref q16, .ref q17, .int 0, .int 0, .ref q18, .ref q19]) X ff_X10_66 (Nat.le_of_ble_eq_true rfl) rfl dX10_init_159 ?_
    refine c_iconst X dX10_init_162 ?_
    refine c_istore_n (lv' := [(1, kI (0)), (0, .ref h0)]) X dX10_init_163 (by decide) rfl ?_
    refine c_iload_n X dX10_init_164 0 rfl ?_
    refine c_iconst X dX10_init_165 ?_
    refine c_ge_f (tgt := 182) X dX10_init_166 (by decide) ⟨by decide, by decide⟩ ⟨by decide, by decide⟩ (by decide) ?_
    refine c_aload_n X dX10_init_169 1 rfl ?_
    refine c_getR X fk_X10_63 rfl dX10_init_170 ?_
    refine c_iload_n X dX10_init_173 0 rfl ?_
    refine c_iconst X dX10_init_174 ?_
    refine c_eq (ws' := [(h0, .inr (9, [.ref q1, .ref q2, .int 0, .ref q3, .ref q4, .ref q5, .int 0, .int 0, .int 0, .int 0, .ref q6, .ref q7, .ref q8, .ref q9, .ref q10, .ref q11, .ref q12, .int 0, .int 0, .int 0, .int 0, .int 0, .ref q13, .ref q14, .ref q15, .ref q16, .ref q17, .int 0, .int 0, .ref q18, .ref q19])), (q1, .inl (cA 0, 608, .inl (fun _ => 0))), (q2, .inl (cA 0, 608, .inl (fun _ => 0))), (q3, .inl (cA 0, 60, .inl (fun _ => 0))), (q4, .inl (cA 0, 640, .inl (fun _ => 0))), (q5, .inl (cA 0, 6, .inl (fun _ => 0))), (q6, .inl (cA 0, 30, .inl (fun _ => 0))), (q7, .inl (cA 0, 30, .inl (fun _ => 0))), (q8, .inl (cA 0, 30, .inl (fun _ => 0))), (q9, .inl (cA 0, 30, .inl (fun _ => 0))), (q10, .inl (cA 0, 240, .inl (fun _ => 0))), (q11, .inl (cA 0, 240, .inl (fun _ => 0))), (q12, .inl (cA 0, 240, .inl (fun _ => 0))), (q13, .inl (cA 0, 30, .inl (fun _ => 0))), (q14, .inl (cA 0, 30, .inl (fun _ => 0))), (q15, .inl (cA 0, 60, .inl (fun _ => 0))), (q16, .inl (cA 0, 30, .inl (fun _ => 0))), (q17, .inl (cA 0, 30, .inl (fun _ => 0))), (q18, .inl (cA 0, 4, .inl (fun _ => 0))), (q19, .inl (cA 0, 160, .inl (fun _ => 0)))]) (by simp only [List.cons_append, List.nil_append]) ?_
    refine c_iast (ws' := [(h0, .inr (9, [.ref q1, .ref q2, .int 0, .ref q3, .ref q4, .ref q5, .int 0, .int 0, .int 0, .int 0, .ref q6, .ref q7, .ref q8, .ref q9, .ref q10, .ref q11, .ref q12, .int 0, .int 0, .int 0, .int 0, .int 0, .ref q13, .ref q14, .ref q15, .ref q16, .ref q17, .int 0, .int 0, .ref q18, .ref q19])), (q1, .inl (cA 0, 608, .inl (fun _ => 0))), (q2, .inl (cA 0, 608, .inl (fun _ => 0))), (q3, .inl (cA 0, 60, .inl (fun _ => 0))), (q4, .inl (cA 0, 640, .inl (fun _ => 0))), (q5, .inl (cA 0, 6, .inl (fun _ => 0))), (q6, .inl (cA 0, 30, .inl (fun _ => 0))), (q7, .inl (cA 0, 30, .inl (fun _ => 0))), (q8, .inl (cA 0, 30, .inl (fun _ => 0))), (q9, .inl (cA 0, 30, .inl (fun _ => 0))), (q10, .inl (cA 0, 240, .inl (fun _ => 0))), (q11, .inl (cA 0, 240, .inl (fun _ => 0))), (q12, .inl (cA 0, 240, .inl (fun _ => 0))), (q13, .inl (cA 0, 30, .inl (fun _ => 0))), (q14, .inl (cA 0, 30, .inl (fun _ => 0))), (q15, .inl (cA 0, 60, .inl (fun _ => 0))), (q16, .inl (cA 0, 30, .inl (fun _ => 0))), (q17, .inl (cA 0, 30, .inl (fun _ => 0))), (q18, .inl (cA 0, 4, .inl (upd (fun _ => 0) 0 (Int32.ofInt (-1))))), (q19, .inl (cA 0, 160, .inl (fun _ => 0)))]) X 18 rfl (Nat.le_of_ble_eq_true rfl) ⟨by decide, by decide⟩ rfl dX10_init_175 ?_
    refine c_iinc (y := 1) (lv' := [(1, kI 1), (0, .ref h0)]) X dX10_init_176 0 rfl (by decide) (by decide) rfl ?_
    refine c_goto (tgt := 164) X dX10_init_179 (by decide) ?_
    refine c_iload_n X dX10_init_164 0 rfl ?_
    refine c_iconst X dX10_init_165 ?_
    refine c_ge_f (tgt := 182) X dX10_init_166 (by decide) ⟨by decide, by decide⟩ ⟨by decide, by decide⟩ (by decide) ?_
    refine c_aload_n X dX10_init_169 1 rfl ?_
    refine c_getR X fk_X10_63 rfl dX10_init_170 ?_
    refine c_iload_n X dX10_init_173 0 rfl ?_
    refine c_iconst X dX10_init_174 ?_
    refine c_iast (ws' := [(h0, .inr (9, [.ref q1, .ref q2, .int 0, .ref q3, .ref q4, .ref q5, .int 0, .int 0, .int 0, .int 0, .ref q6, .ref q7, .ref q8, .ref q9, .ref q10, .ref q11, .ref q12, .int 0, .int 0, .int 0, .int 0, .int 0, .ref q13, .ref q14, .ref q15, .ref q16, .ref q17, .int 0, .int 0, .ref q18, .ref q19])), (q1, .inl (cA 0, 608, .inl (fun _ => 0))), (q2, .inl (cA 0, 608, .inl (fun _ => 0))), (q3, .inl (cA 0, 60, .inl (fun _ => 0))), (q4, .inl (cA 0, 640, .inl (fun _ => 0))), (q5, .inl (cA 0, 6, .inl (fun _ => 0))), (q6, .inl (cA 0, 30, .inl (fun _ => 0))), (q7, .inl (cA 0, 30, .inl (fun _ => 0))), (q8, .inl (cA 0, 30, .inl (fun _ => 0))), (q9, .inl (cA 0, 30, .inl (fun _ => 0))), (q10, .inl (cA 0, 240, .inl (fun _ => 0))), (q11, .inl (cA 0, 240, .inl (fun _ => 0))), (q12, .inl (cA 0, 240, .inl (fun _ => 0))), (q13, .inl (cA 0, 30, .inl (fun _ => 0))), (q14, .inl (cA 0, 30, .inl (fun _ => 0))), (q15, .inl (cA 0, 60, .inl (fun _ => 0))), (q16, .inl (cA 0, 30, .inl (fun _ => 0))), (q17, .inl (cA 0, 30, .inl (fun _ => 0))), (q18, .inl (cA 0, 4, .inl (upd (upd (fun _ => 0) 0 (Int32.ofInt (-1))) 1 (Int32.ofInt (-1))))), (q19, .inl (cA 0, 160, .inl (fun _ => 0)))]) X 18 rfl (Nat.le_of_ble_eq_true rfl) ⟨by decide, by decide⟩ rfl dX10_init_175 ?_
    refine c_iinc (y := 2) (lv' := [(1, kI 2), (0, .ref h0)]) X dX10_init_176 0 rfl (by decide) (by decide) rfl ?_
    refine c_goto (tgt := 164) X dX10_init_179 (by decide) ?_
    refine c_iload_n X dX10_init_164 0 rfl ?_
    refine c_iconst X dX10_init_165 ?_
    refine c_ge_f (tgt := 182) X dX10_init_166 (by decide) ⟨by decide, by decide⟩ ⟨by decide, by decide⟩ (by decide) ?_
    refine c_aload_n X dX10_init_169 1 rfl ?_
    refine c_getR X fk_X10_63 rfl dX10_init_170 ?_
    refine c_iload_n X dX10_init_173 0 rfl ?_
    refine c_iconst X dX10_init_174 ?_
    refine c_iast (ws' := [(h0, .inr (9, [.ref q1, .ref q2, .int 0, .ref q3, .ref q4, .ref q5, .int 0, .int 0, .int 0, .int 0, .ref q6, .ref q7, .ref q8, .ref q9, .ref q10, .ref q11, .ref q12, .int 0, .int 0, .int 0, .int 0, .int 0, .ref q13, .ref q14, .ref q15, .ref q16, .ref q17, .int 0, .int 0, .ref q18, .ref q19])), (q1, .inl (cA 0, 608, .inl (fun _ => 0))), (q2, .inl (cA 0, 608, .inl (fun _ => 0))), (q3, .inl (cA 0, 60, .inl (fun _ => 0))), (q4, .inl (cA 0, 640, .inl (fun _ => 0))), (q5, .inl (cA 0, 6, .inl (fun _ => 0))), (q6, .inl (cA 0, 30, .inl (fun _ => 0))), (q7, .inl (cA 0, 30, .inl (fun _ => 0))), (q8, .inl (cA 0, 30, .inl (fun _ => 0))), (q9, .inl (cA 0, 30, .inl (fun _ => 0))), (q10, .inl (cA 0, 240, .inl (fun _ => 0))), (q11, .inl (cA 0, 240, .inl (fun _ => 0))), (q12, .inl (cA 0, 240, .inl (fun _ => 0))), (q13, .inl (cA 0, 30, .inl (fun _ => 0))), (q14, .inl (cA 0, 30, .inl (fun _ => 0))), (q15, .inl (cA 0, 60, .inl (fun _ => 0))), (q16, .inl (cA 0, 30, .inl (fun _ => 0))), (q17, .inl (cA 0, 30, .inl (fun _ => 0))), (q18, .inl (cA 0, 4, .inl (upd (upd (upd (fun _ => 0) 0 (Int32.ofInt (-1))) 1 (Int32.ofInt (-1))) 2 (Int32.ofInt (-1))))), (q19, .inl (cA 0, 160, .inl (fun _ => 0)))]) X 18 rfl (Nat.le_of_ble_eq_true rfl) ⟨by decide, by decide⟩ rfl dX10_init_175 ?_
    refine c_iinc (y := 3) (lv' := [(1, kI 3), (0, .ref h0)]) X dX10_init_176 0 rfl (by decide) (by decide) rfl ?_
    refine c_goto (tgt := 164) X dX10_init_179 (by decide) ?_
    refine c_iload_n X dX10_init_164 0 rfl ?_
    refine c_iconst X dX10_init_165 ?_
    refine c_ge_f (tgt := 182) X dX10_init_166 (by decide) ⟨by decide, by decide⟩ ⟨by decide, by decide⟩ (by decide) ?_
    refine c_aload_n X dX10_init_169 1 rfl ?_
    refine c_getR X fk_X10_63 rfl dX10_init_170 ?_
    refine c_iload_n X dX10_init_173 0 rfl ?_
    refine c_iconst X dX10_init_174 ?_
    refine c_iast (ws' := [(h0, .inr (9, [.ref q1, .ref q2, .int 0, .ref q3, .ref q4, .ref q5, .int 0, .int 0, .int 0, .int 0, .ref q6, .ref q7, .ref q8, .ref q9, .ref q10, .ref q11, .ref q12, .int 0, .int 0, .int 0, .int 0, .int 0, .ref q13, .ref q14, .ref q15, .ref q16, .ref q17, .int 0, .int 0, .ref q18, .ref q19])), (q1, .inl (cA 0, 608, .inl (fun _ => 0))), (q2, .inl (cA 0, 608, .inl (fun _ => 0))), (q3, .inl (cA 0, 60, .inl (fun _ => 0))), (q4, .inl (cA 0, 640, .inl (fun _ => 0))), (q5, .inl (cA 0, 6, .inl (fun _ => 0))), (q6, .inl (cA 0, 30, .inl (fun _ => 0))), (q7, .inl (cA 0, 30, .inl (fun _ => 0))), (q8, .inl (cA 0, 30, .inl (fun _ => 0))), (q9, .inl (cA 0, 30, .inl (fun _ => 0))), (q10, .inl (cA 0, 240, .inl (fun _ => 0))), (q11, .inl (cA 0, 240, .inl (fun _ => 0))), (q12, .inl (cA 0, 240, .inl (fun _ => 0))), (q13, .inl (cA 0, 30, .inl (fun _ => 0))), (q14, .inl (cA 0, 30, .inl (fun _ => 0))), (q15, .inl (cA 0, 60, .inl (fun _ => 0))), (q16, .inl (cA 0, 30, .inl (fun _ => 0))), (q17, .inl (cA 0, 30, .inl (fun _ => 0))), (q18, .inl (cA 0, 4, .inl (upd (upd (upd (upd (fun _ => 0) 0 (Int32.ofInt (-1))) 1 (Int32.ofInt (-1))) 2 (Int32.ofInt (-1))) 3 (Int32.ofInt (-1))))), (q19, .inl (cA 0, 160, .inl (fun _ => 0)))]) X 18 rfl (Nat.le_of_ble_eq_true rfl) ⟨by decide, by decide⟩ rfl dX10_init_175 ?_
    refine c_iinc (y := 4) (lv' := [(1, kI 4), (0, .ref h0)]) X dX10_init_176 0 rfl (by decide) (by decide) rfl ?_
    refine c_goto (tgt := 164) X dX10_init_179 (by decide) ?_
    refine c_iload_n X dX10_init_164 0 rfl ?_
    refine c_iconst X dX10_init_165 ?_
    refine c_ge_t (tgt := 182) X dX10_init_166 (by decide) ⟨by decide, by decide⟩ ⟨by decide, by decide⟩ (by decide) ?_
    refine c_aload_n X dX10_init_182 1 rfl ?_
    refine c_eq (ws' := (h0, .inr (9, [.ref q1, .ref q2, .int 0, .ref q3, .ref q4, .ref q5, .int 0, .int 0, .int 0, .int 0, .ref q6, .ref q7, .ref q8, .ref q9, .ref q10, .ref q11, .ref q12, .int 0, .int 0, .int 0, .int 0, .int 0, .ref q13, .ref q14, .ref q15, .ref q16, .ref q17, .int 0, .int 0, .ref q18, .ref q19])) :: ((((((((((((((((((([(q1, .inl (cA 0, 608, .inl (fun _ => 0)))] ++ [(q2, .inl (cA 0, 608, .inl (fun _ => 0)))]) ++ [(q3, .inl (cA 0, 60, .inl (fun _ => 0)))]) ++ [(q4, .inl (cA 0, 640, .inl (fun _ => 0)))]) ++ [(q5, .inl (cA 0, 6, .inl (fun _ => 0)))]) ++ [(q6, .inl (cA 0, 30, .inl (fun _ => 0)))]) ++ [(q7, .inl (cA 0, 30, .inl (fun _ => 0)))]) ++ [(q8, .inl (cA 0, 30, .inl (fun _ => 0)))]) ++ [(q9, .inl (cA 0, 30, .inl (fun _ => 0)))]) ++ [(q10, .inl (cA 0, 240, .inl (fun _ => 0)))]) ++ [(q11, .inl (cA 0, 240, .inl (fun _ => 0)))]) ++ [(q12, .inl (cA 0, 240, .inl (fun _ => 0)))]) ++ [(q13, .inl (cA 0, 30, .inl (fun _ => 0)))]) ++ [(q14, .inl (cA 0, 30, .inl (fun _ => 0)))]) ++ [(q15, .inl (cA 0, 60, .inl (fun _ => 0)))]) ++ [(q16, .inl (cA 0, 30, .inl (fun _ => 0)))]) ++ [(q17, .inl (cA 0, 30, .inl (fun _ => 0)))]) ++ [(q18, .inl (cA 0, 4, .inl (upd (upd (upd (upd (fun _ => 0) 0 (Int32.ofInt (-1))) 1 (Int32.ofInt (-1))) 2 (Int32.ofInt (-1))) 3 (Int32.ofInt (-1)))))]) ++ [(q19, .inl (cA 0, 160, .inl (fun _ => 0)))]))) (by simp only [List.cons_append, List.nil_append]) ?_
    refine c_callM (N := NM) (kd := kdM) (ad := fun c => if c = 0 then h0 else (glue (1 + 1 + 1 + 1 + 1 + 1 + 1 + 1 + 1 + 1 + 1 + 1 + 1 + 1 + 1 + 1 + 1 + 1) (glue (1 + 1 + 1 + 1 + 1 + 1 + 1 + 1 + 1 + 1 + 1 + 1 + 1 + 1 + 1 + 1 + 1) (glue (1 + 1 + 1 + 1 + 1 + 1 + 1 + 1 + 1 + 1 + 1 + 1 + 1 + 1 + 1 + 1) (glue (1 + 1 + 1 + 1 + 1 + 1 + 1 + 1 + 1 + 1 + 1 + 1 + 1 + 1 + 1) (glue (1 + 1 + 1 + 1 + 1 + 1 + 1 + 1 + 1 + 1 + 1 + 1 + 1 + 1) (glue (1 + 1 + 1 + 1 + 1 + 1 + 1 + 1 + 1 + 1 + 1 + 1 + 1) (glue (1 + 1 + 1 + 1 + 1 + 1 + 1 + 1 + 1 + 1 + 1 + 1) (glue (1 + 1 + 1 + 1 + 1 + 1 + 1 + 1 + 1 + 1 + 1) (glue (1 + 1 + 1 + 1 + 1 + 1 + 1 + 1 + 1 + 1) (glue (1 + 1 + 1 + 1 + 1 + 1 + 1 + 1 + 1) (glue (1 + 1 + 1 + 1 + 1 + 1 + 1 + 1) (glue (1 + 1 + 1 + 1 + 1 + 1 + 1) (glue (1 + 1 + 1 + 1 + 1 + 1) (glue (1 + 1 + 1 + 1 + 1) (glue (1 + 1 + 1 + 1) (glue (1 + 1 + 1) (glue (1 + 1) (glue (1) (fun _ => q1) (fun _ => q2)) (fun _ => q3)) (fun _ => q4)) (fun _ => q5)) (fun _ => q6)) (fun _ => q7)) (fun _ => q8)) (fun _ => q9)) (fun _ => q10)) (fun _ => q11)) (fun _ => q12)) (fun _ => q13)) (fun _ => q14)) (fun _ => q15)) (fun _ => q16)) (fun _ => q17)) (fun _ => q18)) (fun _ => q19)) (c - 1)) (z := zM0) X hE lk_X10_69 rfl yo_X10_works rfl rfl (by decide) (if_pos rfl) (fun H hP hD => Blk.done (D := D) (kdX := kdM) (zX := zM0) (Blk.app (Blk.app (Blk.app (Blk.app (Blk.app (Blk.app (Blk.app (Blk.app (Blk.app (Blk.app (Blk.app (Blk.app (Blk.app (Blk.app (Blk.app (Blk.app (Blk.app (Blk.app (Blk.one (t := 0) (u := 0) (q := q1) (f := fun _ => 0) (n := 608) (e := .inl (cA 0, 608, .inl (fun _ => 0))) (by decide) rfl) (Blk.one (t := 0) (u := 0) (q := q2) (f := fun _ => 0) (n := 608) (e := .inl (cA 0, 608, .inl (fun _ => 0))) (by decide) rfl) (Clo.one (by decide)) (Clo.one (by decide))) (Blk.one (t := 0) (u := 0) (q := q3) (f := fun _ => 0) (n := 60) (e := .inl (cA 0, 60, .inl (fun _ => 0))) (by decide) rfl) (Clo.app (Clo.one (by decide)) (Clo.one (by decide))) (Clo.one (by decide))) (Blk.one (t := 0) (u := 0) (q := q4) (f := fun _ => 0) (n := 640) (e := .inl (cA 0, 640, .inl (fun _ => 0))) (by decide) rfl) (Clo.app (Clo.app (Clo.one (by decide)) (Clo.one (by decide))) (Clo.one (by decide))) (Clo.one (by decide))) (Blk.one (t := 0) (u := 0) (q := q5) (f := fun _ => 0) (n := 6) (e := .inl (cA 0, 6, .inl (fun _ => 0))) (by decide) rfl) (Clo.app (Clo.app (Clo.app (Clo.one (by decide)) (Clo.one (by decide))) (Clo.one (by decide))) (Clo.one (by decide))) (Clo.one (by decide))) (Blk.one (t := 0) (u := 0) (q := q6) (f := fun _ => 0) (n := 30) (e := .inl (cA 0, 30, .inl (fun _ => 0))) (by decide) rfl) (Clo.app (Clo.app (Clo.app (Clo.app (Clo.one (by decide)) (Clo.one (by decide))) (Clo.one (by decide))) (Clo.one (by decide))) (Clo.one (by decide))) (Clo.one (by decide))) (Blk.one (t := 0) (u := 0) (q := q7) (f := fun _ => 0) (n := 30) (e := .inl (cA 0, 30, .inl (fun _ => 0))) (by decide) rfl) (Clo.app (Clo.app (Clo.app (Clo.app (Clo.app (Clo.one (by decide)) (Clo.one (by decide))) (Clo.one (by decide))) (Clo.one (by decide))) (Clo.one (by decide))) (Clo.one (by decide))) (Clo.one (by decide))) (Blk.one (t := 0) (u := 0) (q := q8) (f := fun _ => 0) (n := 30) (e := .inl (cA 0, 30, .inl (fun _ => 0))) (by decide) rfl) (Clo.app (Clo.app (Clo.app (Clo.app (Clo.app (Clo.app (Clo.one (by decide)) (Clo.one (by decide))) (Clo.one (by decide))) (Clo.one (by decide))) (Clo.one (by decide))) (Clo.one (by decide))) (Clo.one (by decide))) (Clo.one (by decide))) (Blk.one (t := 0) (u := 0) (q := q9) (f := fun _ => 0) (n := 30) (e := .inl (cA 0, 30, .inl (fun _ => 0))) (by decide) rfl) (Clo.app (Clo.app (Clo.app (Clo.app (Clo.app (Clo.app (Clo.app (Clo.one (by decide)) (Clo.one (by decide))) (Clo.one (by decide))) (Clo.one (by decide))) (Clo.one (by decide))) (Clo.one (by decide))) (Clo.one (by decide))) (Clo.one (by decide))) (Clo.one (by decide))) (Blk.one (t := 0) (u := 0) (q := q10) (f := fun _ => 0) (n := 240) (e := .inl (cA 0, 240, .inl (fun _ => 0))) (by decide) rfl) (Clo.app (Clo.app (Clo.app (Clo.app (Clo.app (Clo.app (Clo.app (Clo.app (Clo.one (by decide)) (Clo.one (by decide))) (Clo.one (by decide))) (Clo.one (by decide))) (Clo.one (by decide))) (Clo.one (by decide))) (Clo.one (by decide))) (Clo.one (by decide))) (Clo.one (by decide))) (Clo.one (by decide))) (Blk.one (t := 0) (u := 0) (q := q11) (f := fun _ => 0) (n := 240) (e := .inl (cA 0, 240, .inl (fun _ => 0))) (by decide) rfl) (Clo.app (Clo.app (Clo.app (Clo.app (Clo.app (Clo.app (Clo.app (Clo.app (Clo.app (Clo.one (by decide)) (Clo.one (by decide))) (Clo.one (by decide))) (Clo.one (by decide))) (Clo.one (by decide))) (Clo.one (by decide))) (Clo.one (by decide))) (Clo.one (by decide))) (Clo.one (by decide))) (Clo.one (by decide))) (Clo.one (by decide))) (Blk.one (t := 0) (u := 0) (q := q12) (f := fun _ => 0) (n := 240) (e := .inl (cA 0, 240, .inl (fun _ => 0))) (by decide) rfl) (Clo.app (Clo.app (Clo.app (Clo.app (Clo.app (Clo.app (Clo.app (Clo.app (Clo.app (Clo.app (Clo.one (by decide)) (Clo.one (by decide))) (Clo.one (by decide))) (Clo.one (by decide))) (Clo.one (by decide))) (Clo.one (by decide))) (Clo.one (by decide))) (Clo.one (by decide))) (Clo.one (by decide))) (Clo.one (by decide))) (Clo.one (by decide))) (Clo.one (by decide))) (Blk.one (t := 0) (u := 0) (q := q13) (f := fun _ => 0) (n := 30) (e := .inl (cA 0, 30, .inl (fun _ => 0))) (by decide) rfl) (Clo.app (Clo.app (Clo.app (Clo.app (Clo.app (Clo.app (Clo.app (Clo.app (Clo.app (Clo.app (Clo.app (Clo.one (by decide)) (Clo.one (by decide))) (Clo.one (by decide))) (Clo.one (by decide))) (Clo.one (by decide))) (Clo.one (by decide))) (Clo.one (by decide))) (Clo.one (by decide))) (Clo.one (by decide))) (Clo.one (by decide))) (Clo.one (by decide))) (Clo.one (by decide))) (Clo.one (by decide))) (Blk.one (t := 0) (u := 0) (q := q14) (f := fun _ => 0) (n := 30) (e := .inl (cA 0, 30, .inl (fun _ => 0))) (by decide) rfl) (Clo.app (Clo.app (Clo.app (Clo.app (Clo.app (Clo.app (Clo.app (Clo.app (Clo.app (Clo.app (Clo.app (Clo.app (Clo.one (by decide)) (Clo.one (by decide))) (Clo.one (by decide))) (Clo.one (by decide))) (Clo.one (by decide))) (Clo.one (by decide))) (Clo.one (by decide))) (Clo.one (by decide))) (Clo.one (by decide))) (Clo.one (by decide))) (Clo.one (by decide))) (Clo.one (by decide))) (Clo.one (by decide))) (Clo.one (by decide))) (Blk.one (t := 0) (u := 0) (q := q15) (f := fun _ => 0) (n := 60) (e := .inl (cA 0, 60, .inl (fun _ => 0))) (by decide) rfl) (Clo.app (Clo.app (Clo.app (Clo.app (Clo.app (Clo.app (Clo.app (Clo.app (Clo.app (Clo.app (Clo.app (Clo.app (Clo.app (Clo.one (by decide)) (Clo.one (by decide))) (Clo.one (by decide))) (Clo.one (by decide))) (Clo.one (by decide))) (Clo.one (by decide))) (Clo.one (by decide))) (Clo.one (by decide))) (Clo.one (by decide))) (Clo.one (by decide))) (Clo.one (by decide))) (Clo.one (by decide))) (Clo.one (by decide))) (Clo.one (by decide))) (Clo.one (by decide))) (Blk.one (t := 0) (u := 0) (q := q16) (f := fun _ => 0) (n := 30) (e := .inl (cA 0, 30, .inl (fun _ => 0))) (by decide) rfl) (Clo.app (Clo.app (Clo.app (Clo.app (Clo.app (Clo.app (Clo.app (Clo.app (Clo.app (Clo.app (Clo.app (Clo.app (Clo.app (Clo.app (Clo.one (by decide)) (Clo.one (by decide))) (Clo.one (by decide))) (Clo.one (by decide))) (Clo.one (by decide))) (Clo.one (by decide))) (Clo.one (by decide))) (Clo.one (by decide))) (Clo.one (by decide))) (Clo.one (by decide))) (Clo.one (by decide))) (Clo.one (by decide))) (Clo.one (by decide))) (Clo.one (by decide))) (Clo.one (by decide))) (Clo.one (by decide))) (Blk.one (t := 0) (u := 0) (q := q17) (f := fun _ => 0) (n := 30) (e := .inl (cA 0, 30, .inl (fun _ => 0))) (by decide) rfl) (Clo.app (Clo.app (Clo.app (Clo.app (Clo.app (Clo.app (Clo.app (Clo.app (Clo.app (Clo.app (Clo.app (Clo.app (Clo.app (Clo.app (Clo.app (Clo.one (by decide)) (Clo.one (by decide))) (Clo.one (by decide))) (Clo.one (by decide))) (Clo.one (by decide))) (Clo.one (by decide))) (Clo.one (by decide))) (Clo.one (by decide))) (Clo.one (by decide))) (Clo.one (by decide))) (Clo.one (by decide))) (Clo.one (by decide))) (Clo.one (by decide))) (Clo.one (by decide))) (Clo.one (by decide))) (Clo.one (by decide))) (Clo.one (by decide))) (Blk.one (t := 0) (u := 0) (q := q18) (f := fun j => if j < 4 then -1 else 0) (n := 4) (e := .inl (cA 0, 4, .inl (upd (upd (upd (upd (fun _ => 0) 0 (Int32.ofInt (-1))) 1 (Int32.ofInt (-1))) 2 (Int32.ofInt (-1))) 3 (Int32.ofInt (-1))))) (by decide) (upd4 _)) (Clo.app (Clo.app (Clo.app (Clo.app (Clo.app (Clo.app (Clo.app (Clo.app (Clo.app (Clo.app (Clo.app (Clo.app (Clo.app (Clo.app (Clo.app (Clo.app (Clo.one (by decide)) (Clo.one (by decide))) (Clo.one (by decide))) (Clo.one (by decide))) (Clo.one (by decide))) (Clo.one (by decide))) (Clo.one (by decide))) (Clo.one (by decide))) (Clo.one (by decide))) (Clo.one (by decide))) (Clo.one (by decide))) (Clo.one (by decide))) (Clo.one (by decide))) (Clo.one (by decide))) (Clo.one (by decide))) (Clo.one (by decide))) (Clo.one (by decide))) (Clo.one (by decide))) (Blk.one (t := 0) (u := 0) (q := q19) (f := fun _ => 0) (n := 160) (e := .inl (cA 0, 160, .inl (fun _ => 0))) (by decide) rfl) (Clo.app (Clo.app (Clo.app (Clo.app (Clo.app (Clo.app (Clo.app (Clo.app (Clo.app (Clo.app (Clo.app (Clo.app (Clo.app (Clo.app (Clo.app (Clo.app (Clo.app (Clo.one (by decide)) (Clo.one (by decide))) (Clo.one (by decide))) (Clo.one (by decide))) (Clo.one (by decide))) (Clo.one (by decide))) (Clo.one (by decide))) (Clo.one (by decide))) (Clo.one (by decide))) (Clo.one (by decide))) (Clo.one (by decide))) (Clo.one (by decide))) (Clo.one (by decide))) (Clo.one (by decide))) (Clo.one (by decide))) (Clo.one (by decide))) (Clo.one (by decide))) (Clo.one (by decide))) (Clo.one (by decide))) (Clo.app (Clo.app (Clo.app (Clo.app (Clo.app (Clo.app (Clo.app (Clo.app (Clo.app (Clo.app (Clo.app (Clo.app (Clo.app (Clo.app (Clo.app (Clo.app (Clo.app (Clo.app (Clo.one (by decide)) (Clo.one (by decide))) (Clo.one (by decide))) (Clo.one (by decide))) (Clo.one (by decide))) (Clo.one (by decide))) (Clo.one (by decide))) (Clo.one (by decide))) (Clo.one (by decide))) (Clo.one (by decide))) (Clo.one (by decide))) (Clo.one (by decide))) (Clo.one (by decide))) (Clo.one (by decide))) (Clo.one (by decide))) (Clo.one (by decide))) (Clo.one (by decide))) (Clo.one (by decide))) (Clo.one (by decide))) rfl rfl (by decide +kernel) (zM0_of (glue_z (glue_z (glue_z (glue_z (glue_z (glue_z (glue_z (glue_z (glue_z (glue_z (glue_z (glue_z (glue_z (glue_z (glue_z (glue_z (fun _ _ => rfl) (fun _ _ => rfl)) (fun _ _ => rfl)) (fun _ _ => rfl)) (fun _ _ => rfl)) (fun _ _ => rfl)) (fun _ _ => rfl)) (fun _ _ => rfl)) (fun _ _ => rfl)) (fun _ _ => rfl)) (fun _ _ => rfl)) (fun _ _ => rfl)) (fun _ _ => rfl)) (fun _ _ => rfl)) (fun _ _ => rfl)) (fun _ _ => rfl)) (fun _ _ => rfl)) (fun _ _ => rfl)) rfl hP hD) (fun hj => ct_X10_works hj zM0 Kp h) (kCR_ok (by decide) (by decide)) (Nat.le_of_ble_eq_true rfl) (Nat.le_of_ble_eq_true rfl) (Nat.le_of_ble_eq_true rfl) dX10_init_183 (fun z' hz' => ?_)
    intro H locs ls hP hD hS hl
    refine W.widen (k := 19) (n := 3106) (Nat.le_of_ble_eq_true rfl) (Nat.le_of_ble_eq_true rfl) ?_
    exact W.vret (Qc := kMQ D cA h0 A Kp) (free := A) X.1 X.2.1 hrt (fun t ht hW => ⟨⟨(fun c => if c = 0 then h0 else (glue (1 + 1 + 1 + 1 + 1 + 1 + 1 + 1 + 1 + 1 + 1 + 1 + 1 + 1 + 1 + 1 + 1 + 1) (glue (1 + 1 + 1 + 1 + 1 + 1 + 1 + 1 + 1 + 1 + 1 + 1 + 1 + 1 + 1 + 1 + 1) (glue (1 + 1 + 1 + 1 + 1 + 1 + 1 + 1 + 1 + 1 + 1 + 1 + 1 + 1 + 1 + 1) (glue (1 + 1 + 1 + 1 + 1 + 1 + 1 + 1 + 1 + 1 + 1 + 1 + 1 + 1 + 1) (glue (1 + 1 + 1 + 1 + 1 + 1 + 1 + 1 + 1 + 1 + 1 + 1 + 1 + 1) (glue (1 + 1 + 1 + 1 + 1 + 1 + 1 + 1 + 1 + 1 + 1 + 1 + 1) (glue (1 + 1 + 1 + 1 + 1 + 1 + 1 + 1 + 1 + 1 + 1 + 1) (glue (1 + 1 + 1 + 1 + 1 + 1 + 1 + 1 + 1 + 1 + 1) (glue (1 + 1 + 1 + 1 + 1 + 1 + 1 + 1 + 1 + 1) (glue (1 + 1 + 1 + 1 + 1 + 1 + 1 + 1 + 1) (glue (1 + 1 + 1 + 1 + 1 + 1 + 1 + 1) (glue (1 + 1 + 1 + 1 + 1 + 1 + 1) (glue (1 + 1 + 1 + 1 + 1 + 1) (glue (1 + 1 + 1 + 1 + 1) (glue (1 + 1 + 1 + 1) (glue (1 + 1 + 1) (glue (1 + 1) (glue (1) (fun _ => q1) (fun _ => q2)) (fun _ => q3)) (fun _ => q4)) (fun _ => q5)) (fun _ => q6)) (fun _ => q7)) (fun _ => q8)) (fun _ => q9)) (fun _ => q10)) (fun _ => q11)) (fun _ => q12)) (fun _ => q13)) (fun _ => q14)) (fun _ => q15)) (fun _ => q16)) (fun _ => q17)) (fun _ => q18)) (fun _ => q19)) (c - 1), z'), rfl, ⟨rfl, hz'⟩, by show va_P D vwCl _ t.heap ∧ _; rw [ht]; exact ⟨hP, hD⟩⟩, hS.F ht⟩) hS.2.2 dX10_init_186 hlk
  exact body s.heap [] _ hP hD va_S.rf hl
