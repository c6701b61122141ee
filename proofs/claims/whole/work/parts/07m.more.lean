/-! more rows of the machine: names for heaps, texts, the letters, switches, Math, arraycopy -/
theorem ki_lt {i : Int} {n : Nat} (h : inb i n) : i.toNat < n := by have h1 := h.1; have h2 := h.2; omega
theorem kR_ok {d d' ml : Nat} (h : d' < d) (hm : ml ≤ 45) : d' + 1 ≤ (kR d).frames ∧ 8 + (ml + 11) + 64 * d' ≤ (kR d).locals := ⟨h, by show _ ≤ 64 * d; omega⟩
theorem kR_one {d : Nat} (h : 0 < d) : 1 ≤ (kR d).frames ∧ 64 ≤ (kR d).locals := ⟨h, by show _ ≤ 64 * d; omega⟩
section KM
variable {p : Program} {l : Launch} {e : Env} {R : Room} {s : State} {m : MethodId} {args : Array Value} {below : List Frame} {meth : Method} {c : Code} {Q : State → Prop}
variable {cc : ByteArray} {own : String} {nL N : Nat} {kd : Nat → Nat × Nat × Nat} {D : va_G} {cA : Nat → ClassId} {ad sa : Nat → Nat}
variable {pc : Nat} {lv : List (Nat × Value)} {st : List Value} {z : Hp}
theorem kCx_j (X : kCx p R s m args c cc own nL N kd D cA ad sa) : kInj N ad := X.2.2.2.2.2.2.1
theorem kCx_l (X : kCx p R s m args c cc own nL N kd D cA ad sa) : kLt N kd := X.2.2.2.2.2.2.2.1
theorem kCx_e (X : kCx p R s m args c cc own nL N kd D cA ad sa) : kEnv (kA N ad) sa s s.heap := X.2.2.2.2.2.2.2.2
theorem k_nameH {P : Hp → Prop} {z0 : Hp} (h : hp1 z0 P) (kk : ∀ z', P z' → kAt p l e R s m args below meth c Q nL N kd D cA ad pc lv st z') : kAt p l e R s m args below meth c Q nL N kd D cA ad pc lv st z0 := kk z0 h
theorem k_swin (X : kCx p R s m args c cc own nL N kd D cA ad sa) {dflt lo hi : Int} {offs : Array Int} {len : Nat} {x v : Int} {off : Int} {tgt : Nat} (d : decode cc pc = .ok (.tableswitch dflt lo hi offs, len)) (hr : rg x) (hx : x = v) (h1 : ¬ v < lo) (h2 : ¬ hi < v) (ho : offs[(v - lo).toNat]? = some off) (ht : (pc : Int) + off = (tgt : Int)) (kk : kAt p l e R s m args below meth c Q nL N kd D cA ad tgt lv st z) : kAt p l e R s m args below meth c Q nL N kd D cA ad pc lv (kI x :: st) z := fun H locs ls hP hS hl => lv_tableIn X.1 X.2.1 d (by rw [kI_toInt hr, hx]; exact h1) (by rw [kI_toInt hr, hx]; exact h2) (by rw [kI_toInt hr, hx]; exact ho) ht (kk H locs ls hP hS hl)
theorem k_swout (X : kCx p R s m args c cc own nL N kd D cA ad sa) {dflt lo hi : Int} {offs : Array Int} {len : Nat} {x : Int} {tgt : Nat} (d : decode cc pc = .ok (.tableswitch dflt lo hi offs, len)) (hr : rg x) (hx : x < lo ∨ hi < x) (ht : (pc : Int) + dflt = (tgt : Int)) (kk : kAt p l e R s m args below meth c Q nL N kd D cA ad tgt lv st z) : kAt p l e R s m args below meth c Q nL N kd D cA ad pc lv (kI x :: st) z := fun H locs ls hP hS hl => lv_tableOut X.1 X.2.1 d (by rw [kI_toInt hr]; exact hx) ht (kk H locs ls hP hS hl)
theorem k_mmin (X : kCx p R s m args c cc own nL N kd D cA ad sa) {idx : Nat} {x y : Int} {P : Prop} (w1 : Cond.methodLink own idx Lib.Math.min.name ∈ GW) (w2 : Cond.static Lib.Math.min.name ∈ GW) (w3 : Cond.initialized "java/lang/Math" ∈ GW) (w4 : Cond.code Lib.Math.min.name Lib.Math.min.code 2 (some .int) ∈ GW) (hR : 1 ≤ R.frames ∧ 64 ≤ R.locals) (hst : (st.map fun v => v.category).sum ≤ 8) (d : decode cc pc = .ok (.invokestatic idx, 3)) (h : rg x ∧ rg y ∧ P) (kk : P → kAt p l e R s m args below meth c Q nL N kd D cA ad (pc + 3) lv (kI (if y < x then y else x) :: st) z) : kAt p l e R s m args below meth c Q nL N kd D cA ad pc lv (kI y :: kI x :: st) z := by
  intro H locs ls hP hS hl
  have ts := X.2.2.2.2.1
  refine va_mmin X.1 X.2.1 (by rw [X.2.2.1]; exact hl.1.symm) X.2.2.2.1 (ts _ w1) (ts _ w2) (ts _ w3) (ts _ w4) hR.1 (by omega) (Nat.zero_le _) (Nat.zero_le _) d ?_
  have e1 : (Value.int (if Int32.ofInt y < Int32.ofInt x then Int32.ofInt y else Int32.ofInt x)) = kI (if y < x then y else x) := by
    unfold kI
    by_cases q : y < x
    · rw [if_pos q, if_pos ((kI_lt h.2.1 h.1).mpr q)]
    · rw [if_neg q, if_neg (fun g => q ((kI_lt h.2.1 h.1).mp g))]
  rw [e1]
  exact kk h.2.2 H locs ls hP hS hl
theorem k_mmax (X : kCx p R s m args c cc own nL N kd D cA ad sa) {idx : Nat} {x y : Int} {P : Prop} (w1 : Cond.methodLink own idx Lib.Math.max.name ∈ GW) (w2 : Cond.static Lib.Math.max.name ∈ GW) (w3 : Cond.initialized "java/lang/Math" ∈ GW) (w4 : Cond.code Lib.Math.max.name Lib.Math.max.code 2 (some .int) ∈ GW) (hR : 1 ≤ R.frames ∧ 64 ≤ R.locals) (hst : (st.map fun v => v.category).sum ≤ 8) (d : decode cc pc = .ok (.invokestatic idx, 3)) (h : rg x ∧ rg y ∧ P) (kk : P → kAt p l e R s m args below meth c Q nL N kd D cA ad (pc + 3) lv (kI (if x < y then y else x) :: st) z) : kAt p l e R s m args below meth c Q nL N kd D cA ad pc lv (kI y :: kI x :: st) z := by
  intro H locs ls hP hS hl
  have ts := X.2.2.2.2.1
  refine va_mmax X.1 X.2.1 (by rw [X.2.2.1]; exact hl.1.symm) X.2.2.2.1 (ts _ w1) (ts _ w2) (ts _ w3) (ts _ w4) hR.1 (by omega) (Nat.zero_le _) (Nat.zero_le _) d ?_
  have e1 : (Value.int (if Int32.ofInt x < Int32.ofInt y then Int32.ofInt y else Int32.ofInt x)) = kI (if x < y then y else x) := by
    unfold kI
    by_cases q : x < y
    · rw [if_pos q, if_pos ((kI_lt h.1 h.2.1).mpr q)]
    · rw [if_neg q, if_neg (fun g => q ((kI_lt h.1 h.2.1).mp g))]
  rw [e1]
  exact kk h.2.2 H locs ls hP hS hl
theorem k_mabs (X : kCx p R s m args c cc own nL N kd D cA ad sa) {idx : Nat} {x : Int} {P : Prop} (w1 : Cond.methodLink own idx Lib.Math.abs.name ∈ GW) (w2 : Cond.static Lib.Math.abs.name ∈ GW) (w3 : Cond.initialized "java/lang/Math" ∈ GW) (w4 : Cond.code Lib.Math.abs.name Lib.Math.abs.code 1 (some .int) ∈ GW) (hR : 1 ≤ R.frames ∧ 64 ≤ R.locals) (hst : (st.map fun v => v.category).sum ≤ 8) (d : decode cc pc = .ok (.invokestatic idx, 3)) (h : rg x ∧ P) (kk : P → kAt p l e R s m args below meth c Q nL N kd D cA ad (pc + 3) lv (kI (if 0 ≤ x then x else 0 - x) :: st) z) : kAt p l e R s m args below meth c Q nL N kd D cA ad pc lv (kI x :: st) z := by
  intro H locs ls hP hS hl
  have ts := X.2.2.2.2.1
  refine va_mabs X.1 X.2.1 (by rw [X.2.2.1]; exact hl.1.symm) X.2.2.2.1 (ts _ w1) (ts _ w2) (ts _ w3) (ts _ w4) hR.1 (by omega) (Nat.zero_le _) (Nat.zero_le _) d ?_
  have e1 : (Value.int (if (0 : Int32) ≤ Int32.ofInt x then Int32.ofInt x else 0 - Int32.ofInt x)) = kI (if 0 ≤ x then x else 0 - x) := by
    unfold kI
    have hle : (0 : Int32) ≤ Int32.ofInt x ↔ 0 ≤ x := kI_le rg0 h.1
    by_cases q : 0 ≤ x
    · rw [if_pos q, if_pos (hle.mpr q)]
    · rw [if_neg q, if_neg (fun g => q (hle.mp g)), Int32.ofInt_sub]
      rfl
  rw [e1]
  exact kk h.2 H locs ls hP hS hl
theorem kW_cpy {ty b0 b1 k n1 u1 : Nat} {cB : ClassId} (hk : kd b1 = (ty + 1, n1, u1)) (ht : ty < 2) (hc : b1 < N) (he : cB = cA ty) : (kW N kd cA ad z).set b1 (ad b1, .inl (cB, n1, .inl (va_cpy (fun j => Int32.ofInt (z b0 j)) (fun j => Int32.ofInt (z b1 j)) 0 0 k))) = kW N kd cA ad (kcp z b0 b1 0 0 k) := by
  subst he
  have hf : va_cpy (fun j => Int32.ofInt (z b0 j)) (fun j => Int32.ofInt (z b1 j)) 0 0 k = fun j => Int32.ofInt (kcp z b0 b1 0 0 k b1 j) := by
    funext j
    unfold va_cpy kcp
    by_cases q : 0 ≤ j ∧ j < 0 + k
    · rw [if_pos q, if_pos ⟨rfl, q⟩]
    · rw [if_neg q, if_neg (fun g => q g.2)]
  refine kW_set hc ?_ (fun b hb => kcell_eq (fun i => if_neg (fun q => hb q.1)))
  rw [hf]
  rcases (show ty = 0 ∨ ty = 1 by omega) with rfl | rfl
  · exact kcell_i hk
  · exact kcell_b hk
theorem k_acp (X : kCx p R s m args c cc own nL N kd D cA ad sa) {ty idx k b0 b1 n0 u0 n1 u1 : Nat} {ft : FieldType} (w1 : Cond.methodLink own idx arraycopyName ∈ GW) (w2 : Cond.native arraycopyName ∈ GW) (w3 : Cond.static arraycopyName ∈ GW) (w4 : Cond.initialized "java/lang/System" ∈ GW) (hk0 : kd b0 = (ty + 1, n0, u0)) (hk1 : kd b1 = (ty + 1, n1, u1)) (ht : ty < 2) (hft : (kTys cA)[ty]? = some (cA ty, ft)) (hp : refKind ft = false) (h0 : k ≤ n0) (h1 : k ≤ n1) (hkk : k < 2147483648) (hfit : ∀ i : Nat, i < k → fits ft (.int (Int32.ofInt (z b0 i))) = true) (hR : 1 ≤ R.frames ∧ 64 ≤ R.locals) (hst : (st.map fun v => v.category).sum ≤ 8) (d : decode cc pc = .ok (.invokestatic idx, 3)) (kk : kAt p l e R s m args below meth c Q nL N kd D cA ad (pc + 3) lv st (kcp z b0 b1 0 0 k)) : kAt p l e R s m args below meth c Q nL N kd D cA ad pc lv (kI (k : Nat) :: kI 0 :: .ref (ad b1) :: kI 0 :: .ref (ad b0) :: st) z := by
  obtain ⟨x1, x2, x3, x4, x5, x6, x7, x8, x9⟩ := X
  intro H locs ls hP hS hl
  have hb0 : b0 < N := x8 b0 (by rw [hk0]; exact kne (by omega))
  have hb1 : b1 < N := x8 b1 (by rw [hk1]; exact kne (by omega))
  have e0 : (kW N kd cA ad z)[b0]? = some (ad b0, .inl (cA ty, n0, .inl (fun j => Int32.ofInt (z b0 j)))) := by
    rw [kW_get hb0]
    rcases (show ty = 0 ∨ ty = 1 by omega) with rfl | rfl
    · rw [kcell_i hk0]
    · rw [kcell_b hk0]
  have e1 : (kW N kd cA ad z)[b1]? = some (ad b1, .inl (cA ty, n1, .inl (fun j => Int32.ofInt (z b1 j)))) := by
    rw [kW_get hb1]
    rcases (show ty = 0 ∨ ty = 1 by omega) with rfl | rfl
    · rw [kcell_i hk1]
    · rw [kcell_b hk1]
  have hz : ¬ (Int32.ofInt 0) < 0 := by decide +kernel
  have z0 : (Int32.ofInt 0).toNatClampNeg = 0 := by decide +kernel
  have zk : (Int32.ofInt (k : Nat)).toNatClampNeg = k := by rw [Int32.toNatClampNeg_ofInt_of_le (by omega) (by omega)]; omega
  have hn : ¬ Int32.ofInt (k : Nat) < 0 := by
    rw [Int32.lt_iff_toInt_lt, kI_toInt ⟨by omega, by omega⟩, Int32.toInt_zero]
    omega
  have hnw : nativeFrameWords "java/lang/System" "arraycopy" 5 = 7 := by decide +kernel
  refine va_copyi (rest := st) (ty := ft) x1 x2 (by rw [x3]; exact hl.1.symm) x4 (x5 _ w1) (x5 _ w2) (x5 _ w3) (x5 _ w4) x6 hP (kD x7 z) hS b0 b1 ty ty e0 e1 hft hft hp hz hz hn (by rw [z0, zk]; omega) (by rw [z0, zk]; omega) (by rw [z0, zk]; intro i hi; rw [Nat.zero_add]; exact hfit i hi) hR.1 (by rw [hnw]; omega) d (fun H1 locs1 hP1 _ hS1 => ?_)
  rw [z0, zk] at hP1
  refine kk H1 locs1 ls ?_ hS1 hl
  unfold kPic
  rw [← kW_cpy (cA := cA) (ad := ad) hk1 ht hb1 rfl]
  exact hP1
theorem k_acpi (X : kCx p R s m args c cc own nL N kd D cA ad sa) {idx k b0 b1 n0 u0 n1 u1 : Nat} (w1 : Cond.methodLink own idx arraycopyName ∈ GW) (w2 : Cond.native arraycopyName ∈ GW) (w3 : Cond.static arraycopyName ∈ GW) (w4 : Cond.initialized "java/lang/System" ∈ GW) (hk0 : kd b0 = (1, n0, u0)) (hk1 : kd b1 = (1, n1, u1)) (h0 : k ≤ n0 ∧ k < 2147483648) (h1 : k ≤ n1) (hR : 1 ≤ R.frames ∧ 64 ≤ R.locals) (hst : (st.map fun v => v.category).sum ≤ 8) (d : decode cc pc = .ok (.invokestatic idx, 3)) (kk : kAt p l e R s m args below meth c Q nL N kd D cA ad (pc + 3) lv st (kcp z b0 b1 0 0 k)) : kAt p l e R s m args below meth c Q nL N kd D cA ad pc lv (kI (k : Nat) :: kI 0 :: .ref (ad b1) :: kI 0 :: .ref (ad b0) :: st) z :=
  k_acp (ty := 0) X w1 w2 w3 w4 hk0 hk1 (by decide) rfl rfl h0.1 h1 h0.2 (fun _ _ => rfl) hR hst d kk
theorem k_acpb (X : kCx p R s m args c cc own nL N kd D cA ad sa) {idx k b0 b1 n0 u0 n1 u1 : Nat} (w1 : Cond.methodLink own idx arraycopyName ∈ GW) (w2 : Cond.native arraycopyName ∈ GW) (w3 : Cond.static arraycopyName ∈ GW) (w4 : Cond.initialized "java/lang/System" ∈ GW) (hk0 : kd b0 = (2, n0, u0)) (hk1 : kd b1 = (2, n1, u1)) (h0 : k ≤ n0 ∧ k < 2147483648) (h1 : k ≤ n1) (hb : ∀ i : Nat, i < k → by8 (z b0 i)) (hR : 1 ≤ R.frames ∧ 64 ≤ R.locals) (hst : (st.map fun v => v.category).sum ≤ 8) (d : decode cc pc = .ok (.invokestatic idx, 3)) (kk : kAt p l e R s m args below meth c Q nL N kd D cA ad (pc + 3) lv st (kcp z b0 b1 0 0 k)) : kAt p l e R s m args below meth c Q nL N kd D cA ad pc lv (kI (k : Nat) :: kI 0 :: .ref (ad b1) :: kI 0 :: .ref (ad b0) :: st) z :=
  k_acp (ty := 1) X w1 w2 w3 w4 hk0 hk1 (by decide) rfl rfl h0.1 h1 h0.2 (fun i hi => by
    have h9 := hb i hi
    have q1 := h9.1
    have q2 := h9.2
    have e : (Int32.ofInt (z b0 i)).toInt = z b0 i := kI_toInt ⟨by omega, by omega⟩
    have e1 : (-128 : Int32).toInt = -128 := by decide +kernel
    have e2 : (127 : Int32).toInt = 127 := by decide +kernel
    exact Bool.and_eq_true_iff.mpr ⟨decide_eq_true (Int32.le_iff_toInt_le.mpr (by rw [e, e1]; exact q1)), decide_eq_true (Int32.le_iff_toInt_le.mpr (by rw [e, e2]; exact q2))⟩) hR hst d kk
theorem k_gets (X : kCx p R s m args c cc own nL N kd D cA ad sa) {idx : Nat} (hw : Cond.fieldLink own idx "KinProver$Reader" "LETTERS" "[C" ∈ GW) (d : decode cc pc = .ok (.getstatic idx, 3)) (kk : ∀ t : Nat, va_T .char t 8 (fun j => kI (kletL.getD j 0)) (kA N ad) s s.heap → kAt p l e R s m args below meth c Q nL N kd D cA ad (pc + 3) lv (.ref t :: st) z) : kAt p l e R s m args below meth c Q nL N kd D cA ad pc lv st z := by
  intro H locs ls hP hS hl
  obtain ⟨t, h1, h2⟩ := (kCx_e X).2.1
  exact va_gets X.1 X.2.1 h1 hS X.2.2.2.1 (X.2.2.2.2.1 _ hw) (fun _ h => h) d (kk t h2 H locs ls hP hS hl)
theorem k_letlen (X : kCx p R s m args c cc own nL N kd D cA ad sa) {t : Nat} (hT : va_T .char t 8 (fun j => kI (kletL.getD j 0)) (kA N ad) s s.heap) (d : decode cc pc = .ok (.arraylength, 1)) (kk : kAt p l e R s m args below meth c Q nL N kd D cA ad (pc + 1) lv (kI 8 :: st) z) : kAt p l e R s m args below meth c Q nL N kd D cA ad pc lv (.ref t :: st) z := fun H locs ls hP hS hl => va_tlen X.1 X.2.1 hT hS rfl d (kk H locs ls hP hS hl)
theorem k_letat (X : kCx p R s m args c cc own nL N kd D cA ad sa) {t : Nat} {i : Int} {P : Prop} (hT : va_T .char t 8 (fun j => kI (kletL.getD j 0)) (kA N ad) s s.heap) (d : decode cc pc = .ok (.caload, 1)) (h : inb i 8 ∧ P) (kk : P → kAt p l e R s m args below meth c Q nL N kd D cA ad (pc + 1) lv (kI (kletL.getD i.toNat 0) :: st) z) : kAt p l e R s m args below meth c Q nL N kd D cA ad pc lv (kI i :: .ref t :: st) z := fun H locs ls hP hS hl => va_tc X.1 X.2.1 hT hS (kI_in h.1 (Nat.le_of_ble_eq_true rfl)) (by rw [kI_clamp h.1 (Nat.le_of_ble_eq_true rfl)]) d (kk h.2 H locs ls hP hS hl)
theorem k_ldcS (X : kCx p R s m args c cc own nL N kd D cA ad sa) {k idx : Nat} (hk : k < kstrL.length) (ho : (kstrL.getD k ("", 0, "", [])).1 = own) (hi : (kstrL.getD k ("", 0, "", [])).2.1 = idx) (d : decode cc pc = .ok (.ldc idx, 2)) (kk : kAt p l e R s m args below meth c Q nL N kd D cA ad (pc + 2) lv (.ref (sa k) :: st) z) : kAt p l e R s m args below meth c Q nL N kd D cA ad pc lv st z := by
  intro H locs ls hP hS hl
  have h := ((kCx_e X).1 k hk).2
  rw [ho, hi] at h
  exact va_ldcS X.1 X.2.1 X.2.2.2.1 h d (kk H locs ls hP hS hl)
theorem k_ldcWS {T : State} {locs : List Loc} {cells slots : Nat} (X : Stand p l e R s m args below meth c T locs cells slots) (hexec : p.tables.exec = Jvm.exec) {text : String} {index : Nat} {a : Addr} (hown : s.vm.findClass own = some m.cls)
    (hconst : (Cond.stringRef own index text).before args s = true) (hev : (Term.string own index).eval args s none [] s = some (.ref a)) {g : JFrame} (hg : g.method = m) (hdg : decode c.code g.pc = .ok (.ldc_w index, 3)) :
    ∀ target, Steps p.tables e below (T.setTop { g with pc := g.pc + 3, stack := .ref a :: g.stack }) target → Steps p.tables e below (T.setTop g) target := by
  obtain ⟨k, cf, i, a', hk, hcf, hcp, -, hr, hev'⟩ := Cond.stringRef_spec hown hconst
  cases hev.symm.trans hev'
  obtain ⟨k', hk', he⟩ := X.warmed.alike.2.2 _ _ hk
  have hr' : k'.resolved[index]? = some (some (.string a)) := by
    rcases X.warmed.entry hk hk' index with h | ⟨h, -⟩
    · rw [h]; exact hr
    · rw [hr] at h; cases h
  intro target hrest
  subst hg
  jvm_step X.here [hexec, hdg, ldc_w.wp_string (e := e) (s := T) (f := g) X.here.top hk' (by rw [he]; exact hcf) hcp hr']
  exact hrest
theorem k_ldcSw (X : kCx p R s m args c cc own nL N kd D cA ad sa) {k idx : Nat} (hk : k < kstrL.length) (ho : (kstrL.getD k ("", 0, "", [])).1 = own) (hi : (kstrL.getD k ("", 0, "", [])).2.1 = idx) (d : decode cc pc = .ok (.ldc_w idx, 3)) (kk : kAt p l e R s m args below meth c Q nL N kd D cA ad (pc + 3) lv (.ref (sa k) :: st) z) : kAt p l e R s m args below meth c Q nL N kd D cA ad pc lv st z := by
  intro H locs ls hP hS hl
  have h := ((kCx_e X).1 k hk).2
  rw [ho, hi] at h
  intro T hT XX
  obtain ⟨t, a1, b1⟩ := kk H locs ls hP hS hl T hT XX
  exact ⟨t, k_ldcWS XX X.1 X.2.2.2.1 (text := (kstrL.getD k ("", 0, "", [])).2.2.1) (a := sa k) h.1 h.2 (g := F0 m pc ls st) rfl (by rw [X.2.1]; exact d) t a1, b1⟩
theorem k_afterP {post : Int → Prop} {st0 : List Value} {a : Array Value} (hr : ∀ (H : Heap) (locs : List Loc) (ls : Array Slot), kPic N kd D cA ad z H → va_S (kA N ad) s.heap H locs → lv_has ls nL lv → va_Run p l e R s m args below meth c H locs 0 0 0 0 (F0 m pc ls st0) st (kQi N kd D cA ad (fun v z1 => z1 = z ∧ post v) a) (kA N ad)) (kk : ∀ v, post v → kAt p l e R s m args below meth c Q nL N kd D cA ad (pc + 3) lv (kI v :: st) z) : kAt p l e R s m args below meth c Q nL N kd D cA ad pc lv st0 z := k_afterI hr (fun v z1 h => by rw [h.1]; exact kk v h.2)
end KM
