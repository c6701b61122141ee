/-! kinds: (0, class's place, fields) an object; (1, n, _) ints; (2, n, _) bytes; (3, n, place of its class) rows of references to the n cells behind it; (9, _, _) none -/
/-- where the cell stands that a reference field names, counted from its object; 0: the field is a number -/
def kro (ci j : Nat) : Nat := ((kroL.getD ci []).getD j 0)
def kval (ad : Nat → Nat) (z : Hp) (c ci j : Nat) : Value := if kro ci j = 0 then .int (Int32.ofInt (z c j)) else .ref (ad (c + kro ci j))
def kcell (kd : Nat → Nat × Nat × Nat) (cA : Nat → ClassId) (ad : Nat → Nat) (z : Hp) (c : Nat) : va_E :=
  if (kd c).1 = 0 then .inr ((kd c).2.1, (List.range (kd c).2.2).map (kval ad z c (kd c).2.1))
  else if (kd c).1 = 1 then .inl (cA 0, (kd c).2.1, .inl (fun j => Int32.ofInt (z c j)))
  else if (kd c).1 = 2 then .inl (cA 1, (kd c).2.1, .inl (fun j => Int32.ofInt (z c j)))
  else .inl (cA (kd c).2.2, (kd c).2.1, .inr (.inr (.inr (.inr (fun j => some (ad (c + 1 + j)))))))
def kW (N : Nat) (kd : Nat → Nat × Nat × Nat) (cA : Nat → ClassId) (ad : Nat → Nat) (z : Hp) : va_W := (List.range N).map (fun c => (ad c, kcell kd cA ad z c))
theorem kW_get {N : Nat} {kd : Nat → Nat × Nat × Nat} {cA : Nat → ClassId} {ad : Nat → Nat} {z : Hp} {c : Nat} (h : c < N) : (kW N kd cA ad z)[c]? = some (ad c, kcell kd cA ad z c) := by
  unfold kW
  rw [List.getElem?_map, List.getElem?_range h]
  rfl
theorem kW_set {N : Nat} {kd : Nat → Nat × Nat × Nat} {cA : Nat → ClassId} {ad : Nat → Nat} {z z' : Hp} {c : Nat} {e : va_E} (h : c < N) (h1 : kcell kd cA ad z' c = e) (h2 : ∀ b, b ≠ c → kcell kd cA ad z' b = kcell kd cA ad z b) : (kW N kd cA ad z).set c (ad c, e) = kW N kd cA ad z' := by
  apply List.ext_getElem?
  intro i
  by_cases hi : i < N
  · rw [kW_get (z := z') hi]
    by_cases hc : c = i
    · subst hc
      rw [List.getElem?_set_self (by simpa [kW] using h), h1]
    · rw [List.getElem?_set_ne hc, kW_get hi, h2 i (fun q => hc q.symm)]
  · rw [List.getElem?_eq_none (by simpa [kW] using hi), List.getElem?_eq_none (by simpa [kW] using hi)]
def kTys (cA : Nat → ClassId) : List (ClassId × FieldType) := [(cA 0, .int), (cA 1, .byte), (cA 2, .array .byte), (cA 3, .array .int)]
def kPic (N : Nat) (kd : Nat → Nat × Nat × Nat) (D : va_G) (cA : Nat → ClassId) (ad : Nat → Nat) (z : Hp) (H : Heap) : Prop := va_P D vwCl (kW N kd cA ad z) H
/-- the addresses of the cells -/
def kA (N : Nat) (ad : Nat → Nat) : Nat → Prop := fun q => ∃ c, c < N ∧ q = ad c
def kInj (N : Nat) (ad : Nat → Nat) : Prop := ∀ i j, i < N → j < N → ad i = ad j → i = j
def kLt (N : Nat) (kd : Nat → Nat × Nat × Nat) : Prop := ∀ c, (kd c).1 ≠ 9 → c < N
theorem kne {a n u : Nat} (h : a ≠ 9) : ((a, n, u) : Nat × Nat × Nat).1 ≠ 9 := h
theorem kD {N : Nat} {kd : Nat → Nat × Nat × Nat} {cA : Nat → ClassId} {ad : Nat → Nat} (h : kInj N ad) (z : Hp) : va_D (kA N ad) (kW N kd cA ad z) := by
  have lt : ∀ (i : Nat) (p : Nat × va_E), (kW N kd cA ad z)[i]? = some p → i < N := fun i p h => by
    have := (List.getElem?_eq_some_iff.mp h).1
    simpa [kW] using this
  refine ⟨fun i j p q hi hj e => ?_, fun i p hi => ?_⟩
  · have li := lt i p hi
    have lj := lt j q hj
    rw [kW_get li] at hi
    rw [kW_get lj] at hj
    cases hi
    cases hj
    exact h i j li lj e
  · have li := lt i p hi
    rw [kW_get li] at hi
    cases hi
    exact ⟨i, li, rfl⟩
/-- text constants, by their places: address, its bytes' address, bytes -/
def kStr (q v : Nat) (tx : List Int) (A : Nat → Prop) (U : State) (H : Heap) : Prop := va_O "java/lang/String" q A U H ∧ va_OF "java/lang/String" "coder" "B" (.int 0) q A U H ∧ va_OF "java/lang/String" "value" "[B" (.ref v) q A U H ∧ va_T .byte v tx.length (fun j => kI (tx.getD j 0)) A U H
theorem kStr.moved {q v : Nat} {tx : List Int} {A : Nat → Prop} {u U : State} {H : Heap} (hvm : u.vm.Alike U.vm) (h : kStr q v tx A u H) : kStr q v tx A U H := ⟨h.1.moved hvm, h.2.1.moved hvm, h.2.2.1.moved hvm, h.2.2.2.moved hvm⟩
theorem kStr.kept {q v : Nat} {tx : List Int} {A : Nat → Prop} {U : State} {H H1 : Heap} (h : kStr q v tx A U H) (hq : ∀ a : Nat, a < H.size → ¬ A a → H1[a]? = H[a]?) : kStr q v tx A U H1 := ⟨h.1.kept hq, h.2.1.kept hq, h.2.2.1.kept hq, h.2.2.2.kept hq⟩
theorem kStr.narrow {q v : Nat} {tx : List Int} {A B : Nat → Prop} {U : State} {H : Heap} (h : kStr q v tx A U H) (hAB : ∀ q, B q → A q) : kStr q v tx B U H := ⟨h.1.narrow hAB, h.2.1.narrow hAB, h.2.2.1.narrow hAB, h.2.2.2.narrow hAB⟩
/-- what stands still: texts, the letters of the statements' sorts, the JDK's own statics -/
def kEnv (A : Nat → Prop) (sa : Nat → Nat) (U : State) (H : Heap) : Prop :=
  (∀ k, k < kstrL.length → kStr (sa k) (sa (100 + k)) ((kstrL.getD k ("", 0, "", [])).2.2.2) A U H ∧ vk_R (kstrL.getD k ("", 0, "", [])).1 (kstrL.getD k ("", 0, "", [])).2.1 (kstrL.getD k ("", 0, "", [])).2.2.1 (sa k) U) ∧
  (∃ t : Nat, va_Z "KinProver$Reader" "LETTERS" "[C" (.ref t) A U H ∧ va_T .char t 8 (fun j => kI (kletL.getD j 0)) A U H) ∧
  va_Z "java/lang/String" "COMPACT_STRINGS" "Z" (.int 1) A U H ∧ va_Zq "jdk/internal/util/Preconditions" "SIOOBE_FORMATTER" "Ljava/util/function/BiFunction;" A U H
theorem kEnv.moved {A : Nat → Prop} {sa : Nat → Nat} {u U : State} {H : Heap} (hW : u.WarmedH U.vm) (h : kEnv A sa u H) : kEnv A sa U H := by
  obtain ⟨h1, ⟨t, h2, h3⟩, h4, h5⟩ := h
  exact ⟨fun k hk => ⟨(h1 k hk).1.moved hW.alike, (h1 k hk).2.warm hW⟩, ⟨t, h2.moved hW.alike, h3.moved hW.alike⟩, h4.moved hW.alike, h5.moved hW.alike⟩
theorem kEnv.kept {A : Nat → Prop} {sa : Nat → Nat} {U : State} {H H1 : Heap} (h : kEnv A sa U H) (hq : ∀ a : Nat, a < H.size → ¬ A a → H1[a]? = H[a]?) : kEnv A sa U H1 := by
  obtain ⟨h1, ⟨t, h2, h3⟩, h4, h5⟩ := h
  exact ⟨fun k hk => ⟨(h1 k hk).1.kept hq, (h1 k hk).2⟩, ⟨t, h2.kept hq, h3.kept hq⟩, h4.kept hq, h5.kept hq⟩
def kR (d : Nat) : Room := { frames := d, cells := 0, slots := 0, locals := 64 * d }
/-- what a walk stands on -/
def kCx (p : Program) (R : Room) (s : State) (m : MethodId) (args : Array Value) (c : Code) (cc : ByteArray) (own : String) (nL N : Nat) (kd : Nat → Nat × Nat × Nat) (D : va_G) (cA : Nat → ClassId) (ad sa : Nat → Nat) : Prop :=
  p.tables.exec = Jvm.exec ∧ c.code = cc ∧ c.maxLocals = nL ∧ s.vm.findClass own = some m.cls ∧ (∀ w ∈ GW, w.before args s = true) ∧ va_K D vwCl (kTys cA) s ∧ kInj N ad ∧ kLt N kd ∧ kEnv (kA N ad) sa s s.heap
section KC
variable {p : Program} {l : Launch} {e : Env} {R : Room} {s : State} {m : MethodId} {args : Array Value} {below : List Frame} {meth : Method} {c : Code} {Q : State → Prop}
variable {cc : ByteArray} {own : String} {nL N : Nat} {kd : Nat → Nat × Nat × Nat} {D : va_G} {cA : Nat → ClassId} {ad sa : Nat → Nat}
variable {pc : Nat} {lv : List (Nat × Value)} {st : List Value} {z : Hp}
def kAt (p : Program) (l : Launch) (e : Env) (R : Room) (s : State) (m : MethodId) (args : Array Value) (below : List Frame) (meth : Method) (c : Code) (Q : State → Prop) (nL N : Nat) (kd : Nat → Nat × Nat × Nat) (D : va_G) (cA : Nat → ClassId) (ad : Nat → Nat) (pc : Nat) (lv : List (Nat × Value)) (st : List Value) (z : Hp) : Prop :=
  ∀ (H : Heap) (locs : List Loc) (ls : Array Slot), kPic N kd D cA ad z H → va_S (kA N ad) s.heap H locs → lv_has ls nL lv → W p l e R s m args below meth c H locs 0 0 Q (F0 m pc ls st)
theorem k_sub {lv' : List (Nat × Value)} (ks : List Nat) (h : lv_pick lv ks = lv') (kk : kAt p l e R s m args below meth c Q nL N kd D cA ad pc lv' st z) : kAt p l e R s m args below meth c Q nL N kd D cA ad pc lv st z := fun H locs ls hP hS hl => kk H locs ls hP hS (lv_sub hl ks h)
theorem k_iload_n (X : kCx p R s m args c cc own nL N kd D cA ad sa) {k : Fin 4} {x : Int} (d : decode cc pc = .ok (.iload_n k, 1)) (i : Nat) (hk : lv[i]? = some ((k : Nat), kI x)) (kk : kAt p l e R s m args below meth c Q nL N kd D cA ad (pc + 1) lv (kI x :: st) z) : kAt p l e R s m args below meth c Q nL N kd D cA ad pc lv st z := fun H locs ls hP hS hl => lv_iload_n X.1 X.2.1 d rfl (lv_at hl i hk) (kk H locs ls hP hS hl)
theorem k_iload (X : kCx p R s m args c cc own nL N kd D cA ad sa) {k : Nat} {x : Int} (d : decode cc pc = .ok (.iload k, 2)) (i : Nat) (hk : lv[i]? = some (k, kI x)) (kk : kAt p l e R s m args below meth c Q nL N kd D cA ad (pc + 2) lv (kI x :: st) z) : kAt p l e R s m args below meth c Q nL N kd D cA ad pc lv st z := fun H locs ls hP hS hl => lv_iload X.1 X.2.1 d (lv_at hl i hk) (kk H locs ls hP hS hl)
theorem k_aload_n (X : kCx p R s m args c cc own nL N kd D cA ad sa) {k : Fin 4} {x : Nat} (d : decode cc pc = .ok (.aload_n k, 1)) (i : Nat) (hk : lv[i]? = some ((k : Nat), .ref x)) (kk : kAt p l e R s m args below meth c Q nL N kd D cA ad (pc + 1) lv (.ref x :: st) z) : kAt p l e R s m args below meth c Q nL N kd D cA ad pc lv st z := fun H locs ls hP hS hl => lv_aload_n X.1 X.2.1 d rfl (lv_at hl i hk) (kk H locs ls hP hS hl)
theorem k_aload (X : kCx p R s m args c cc own nL N kd D cA ad sa) {k : Nat} {x : Nat} (d : decode cc pc = .ok (.aload k, 2)) (i : Nat) (hk : lv[i]? = some (k, .ref x)) (kk : kAt p l e R s m args below meth c Q nL N kd D cA ad (pc + 2) lv (.ref x :: st) z) : kAt p l e R s m args below meth c Q nL N kd D cA ad pc lv st z := fun H locs ls hP hS hl => lv_aload X.1 X.2.1 d (lv_at hl i hk) (kk H locs ls hP hS hl)
theorem k_istore_n (X : kCx p R s m args c cc own nL N kd D cA ad sa) {k : Fin 4} {x : Int} {P : Int → Prop} (d : decode cc pc = .ok (.istore_n k, 1)) (h : lt1 x P) (lv' : Int → List (Nat × Value)) (hn : (k : Nat) < nL) (hl' : ∀ y, ((k : Nat), kI y) :: lv.filter (fun q => !(q.1 == (k : Nat)) && !(q.1 + 1 == (k : Nat) && q.2.category == 2)) = lv' y) (kk : ∀ y, P y → kAt p l e R s m args below meth c Q nL N kd D cA ad (pc + 1) (lv' y) st z) : kAt p l e R s m args below meth c Q nL N kd D cA ad pc lv (kI x :: st) z := fun H locs ls hP hS hl => lv_istore_n X.1 X.2.1 d rfl hl hn (hl' x) (fun ls' hl2 => kk x h H locs ls' hP hS hl2)
theorem k_istore (X : kCx p R s m args c cc own nL N kd D cA ad sa) {k : Nat} {x : Int} {P : Int → Prop} (d : decode cc pc = .ok (.istore k, 2)) (h : lt1 x P) (lv' : Int → List (Nat × Value)) (hn : k < nL) (hl' : ∀ y, (k, kI y) :: lv.filter (fun q => !(q.1 == k) && !(q.1 + 1 == k && q.2.category == 2)) = lv' y) (kk : ∀ y, P y → kAt p l e R s m args below meth c Q nL N kd D cA ad (pc + 2) (lv' y) st z) : kAt p l e R s m args below meth c Q nL N kd D cA ad pc lv (kI x :: st) z := fun H locs ls hP hS hl => lv_istore X.1 X.2.1 d hl hn (hl' x) (fun ls' hl2 => kk x h H locs ls' hP hS hl2)
theorem k_astore_n (X : kCx p R s m args c cc own nL N kd D cA ad sa) {k : Fin 4} {x : Nat} {lv' : List (Nat × Value)} (d : decode cc pc = .ok (.astore_n k, 1)) (hn : (k : Nat) < nL) (hl' : ((k : Nat), Value.ref x) :: lv.filter (fun q => !(q.1 == (k : Nat)) && !(q.1 + 1 == (k : Nat) && q.2.category == 2)) = lv') (kk : kAt p l e R s m args below meth c Q nL N kd D cA ad (pc + 1) lv' st z) : kAt p l e R s m args below meth c Q nL N kd D cA ad pc lv (.ref x :: st) z := fun H locs ls hP hS hl => lv_astore_n X.1 X.2.1 d rfl hl hn hl' (fun ls' hl2 => kk H locs ls' hP hS hl2)
theorem k_iinc (X : kCx p R s m args c cc own nL N kd D cA ad sa) {k : Nat} {n x : Int} {P : Int → Prop} (d : decode cc pc = .ok (.iinc k n, 3)) (i : Nat) (hk : lv[i]? = some (k, kI x)) (h : lt1 (x + n) P) (lv' : Int → List (Nat × Value)) (hn : k < nL) (hl' : ∀ y, (k, kI y) :: lv.filter (fun q => !(q.1 == k) && !(q.1 + 1 == k && q.2.category == 2)) = lv' y) (kk : ∀ y, P y → kAt p l e R s m args below meth c Q nL N kd D cA ad (pc + 3) (lv' y) st z) : kAt p l e R s m args below meth c Q nL N kd D cA ad pc lv st z := fun H locs ls hP hS hl => lv_iinc X.1 X.2.1 d hl hk (kI_add x n) hn (hl' (x + n)) (fun ls' hl2 => kk (x + n) h H locs ls' hP hS hl2)
theorem k_iconst (X : kCx p R s m args c cc own nL N kd D cA ad sa) {n : Int} (d : decode cc pc = .ok (.iconst n, 1)) (kk : kAt p l e R s m args below meth c Q nL N kd D cA ad (pc + 1) lv (kI n :: st) z) : kAt p l e R s m args below meth c Q nL N kd D cA ad pc lv st z := fun H locs ls hP hS hl => lv_iconst X.1 X.2.1 d rfl (kk H locs ls hP hS hl)
theorem k_bipush (X : kCx p R s m args c cc own nL N kd D cA ad sa) {n : Int} (d : decode cc pc = .ok (.bipush n, 2)) (hv : (Int8.ofInt n).toInt32 = Int32.ofInt n) (kk : kAt p l e R s m args below meth c Q nL N kd D cA ad (pc + 2) lv (kI n :: st) z) : kAt p l e R s m args below meth c Q nL N kd D cA ad pc lv st z := fun H locs ls hP hS hl => lv_bipush X.1 X.2.1 d hv (kk H locs ls hP hS hl)
theorem k_sipush (X : kCx p R s m args c cc own nL N kd D cA ad sa) {n : Int} (d : decode cc pc = .ok (.sipush n, 3)) (hv : (Int16.ofInt n).toInt32 = Int32.ofInt n) (kk : kAt p l e R s m args below meth c Q nL N kd D cA ad (pc + 3) lv (kI n :: st) z) : kAt p l e R s m args below meth c Q nL N kd D cA ad pc lv st z := fun H locs ls hP hS hl => lv_sipush X.1 X.2.1 d hv (kk H locs ls hP hS hl)
theorem k_ldcw (X : kCx p R s m args c cc own nL N kd D cA ad sa) {i : Nat} (n : Int) (hw : Cond.constant own i (Int32.ofInt n) ∈ GW) (d : decode cc pc = .ok (.ldc_w i, 3)) (kk : kAt p l e R s m args below meth c Q nL N kd D cA ad (pc + 3) lv (kI n :: st) z) : kAt p l e R s m args below meth c Q nL N kd D cA ad pc lv st z := fun H locs ls hP hS hl => lv_ldcw X.1 X.2.1 X.2.2.2.1 (X.2.2.2.2.1 _ hw) d (kk H locs ls hP hS hl)
theorem k_ldc (X : kCx p R s m args c cc own nL N kd D cA ad sa) {i : Nat} (n : Int) (hw : Cond.constant own i (Int32.ofInt n) ∈ GW) (d : decode cc pc = .ok (.ldc i, 2)) (kk : kAt p l e R s m args below meth c Q nL N kd D cA ad (pc + 2) lv (kI n :: st) z) : kAt p l e R s m args below meth c Q nL N kd D cA ad pc lv st z := fun H locs ls hP hS hl => lv_ldc X.1 X.2.1 X.2.2.2.1 (X.2.2.2.2.1 _ hw) d (kk H locs ls hP hS hl)
theorem k_ldc2 (X : kCx p R s m args c cc own nL N kd D cA ad sa) {i : Nat} (n : Int) (hw : Cond.constantLong own i (Int64.ofInt n) ∈ GW) (d : decode cc pc = .ok (.ldc2_w i, 3)) (kk : kAt p l e R s m args below meth c Q nL N kd D cA ad (pc + 3) lv (kL n :: st) z) : kAt p l e R s m args below meth c Q nL N kd D cA ad pc lv st z := fun H locs ls hP hS hl => lv_ldc2 X.1 X.2.1 X.2.2.2.1 (X.2.2.2.2.1 _ hw) d (kk H locs ls hP hS hl)
theorem k_iadd (X : kCx p R s m args c cc own nL N kd D cA ad sa) {x y : Int} (d : decode cc pc = .ok (.iadd, 1)) (kk : kAt p l e R s m args below meth c Q nL N kd D cA ad (pc + 1) lv (kI (x + y) :: st) z) : kAt p l e R s m args below meth c Q nL N kd D cA ad pc lv (kI y :: kI x :: st) z := fun H locs ls hP hS hl => lv_iadd X.1 X.2.1 d (by rw [kI_add]; exact kk H locs ls hP hS hl)
theorem k_isub (X : kCx p R s m args c cc own nL N kd D cA ad sa) {x y : Int} (d : decode cc pc = .ok (.isub, 1)) (kk : kAt p l e R s m args below meth c Q nL N kd D cA ad (pc + 1) lv (kI (x - y) :: st) z) : kAt p l e R s m args below meth c Q nL N kd D cA ad pc lv (kI y :: kI x :: st) z := fun H locs ls hP hS hl => lv_isub X.1 X.2.1 d (by rw [kI_sub]; exact kk H locs ls hP hS hl)
theorem k_imul (X : kCx p R s m args c cc own nL N kd D cA ad sa) {x y : Int} (d : decode cc pc = .ok (.imul, 1)) (kk : kAt p l e R s m args below meth c Q nL N kd D cA ad (pc + 1) lv (kI (x * y) :: st) z) : kAt p l e R s m args below meth c Q nL N kd D cA ad pc lv (kI y :: kI x :: st) z := fun H locs ls hP hS hl => lv_imul X.1 X.2.1 d (by rw [kI_mul]; exact kk H locs ls hP hS hl)
theorem k_idiv (X : kCx p R s m args c cc own nL N kd D cA ad sa) {x y : Int} {P : Prop} (d : decode cc pc = .ok (.idiv, 1)) (hy : 0 < y ∧ y ≤ 2147483647) (h : nn x ∧ P) (kk : P → kAt p l e R s m args below meth c Q nL N kd D cA ad (pc + 1) lv (kI (x / y) :: st) z) : kAt p l e R s m args below meth c Q nL N kd D cA ad pc lv (kI y :: kI x :: st) z := fun H locs ls hP hS hl => lv_idiv X.1 X.2.1 d (fun q => by have := (kI_eq ⟨by have := hy.1; omega, hy.2⟩ rg0).mp q; have := hy.1; omega) (by rw [kI_div h.1 hy]; exact kk h.2 H locs ls hP hS hl)
theorem k_irem (X : kCx p R s m args c cc own nL N kd D cA ad sa) {x y : Int} {P : Prop} (d : decode cc pc = .ok (.irem, 1)) (hy : 0 < y ∧ y ≤ 2147483647) (h : nn x ∧ P) (kk : P → kAt p l e R s m args below meth c Q nL N kd D cA ad (pc + 1) lv (kI (x % y) :: st) z) : kAt p l e R s m args below meth c Q nL N kd D cA ad pc lv (kI y :: kI x :: st) z := fun H locs ls hP hS hl => lv_irem X.1 X.2.1 d (fun q => by have := (kI_eq ⟨by have := hy.1; omega, hy.2⟩ rg0).mp q; have := hy.1; omega) (by rw [kI_rem h.1 hy]; exact kk h.2 H locs ls hP hS hl)
theorem k_iand (X : kCx p R s m args c cc own nL N kd D cA ad sa) {x y : Int} (d : decode cc pc = .ok (.iand, 1)) (kk : kAt p l e R s m args below meth c Q nL N kd D cA ad (pc + 1) lv (kI (iand x y) :: st) z) : kAt p l e R s m args below meth c Q nL N kd D cA ad pc lv (kI y :: kI x :: st) z := fun H locs ls hP hS hl => lv_iand X.1 X.2.1 d (by rw [← kI_and]; exact kk H locs ls hP hS hl)
theorem k_ior (X : kCx p R s m args c cc own nL N kd D cA ad sa) {x y : Int} (d : decode cc pc = .ok (.ior, 1)) (kk : kAt p l e R s m args below meth c Q nL N kd D cA ad (pc + 1) lv (kI (ior x y) :: st) z) : kAt p l e R s m args below meth c Q nL N kd D cA ad pc lv (kI y :: kI x :: st) z := fun H locs ls hP hS hl => lv_ior X.1 X.2.1 d (by rw [← kI_or]; exact kk H locs ls hP hS hl)
theorem k_ishl (X : kCx p R s m args c cc own nL N kd D cA ad sa) {x y : Int} (d : decode cc pc = .ok (.ishl, 1)) (kk : kAt p l e R s m args below meth c Q nL N kd D cA ad (pc + 1) lv (kI (ishl x y) :: st) z) : kAt p l e R s m args below meth c Q nL N kd D cA ad pc lv (kI y :: kI x :: st) z := fun H locs ls hP hS hl => lv_ishl X.1 X.2.1 d (by rw [← kI_shl]; exact kk H locs ls hP hS hl)
theorem k_ishr (X : kCx p R s m args c cc own nL N kd D cA ad sa) {x y : Int} (d : decode cc pc = .ok (.ishr, 1)) (kk : kAt p l e R s m args below meth c Q nL N kd D cA ad (pc + 1) lv (kI (ishr x y) :: st) z) : kAt p l e R s m args below meth c Q nL N kd D cA ad pc lv (kI y :: kI x :: st) z := fun H locs ls hP hS hl => lv_ishr X.1 X.2.1 d (by rw [← kI_shr]; exact kk H locs ls hP hS hl)
theorem k_iushr (X : kCx p R s m args c cc own nL N kd D cA ad sa) {x y : Int} (d : decode cc pc = .ok (.iushr, 1)) (kk : kAt p l e R s m args below meth c Q nL N kd D cA ad (pc + 1) lv (kI (iushr x y) :: st) z) : kAt p l e R s m args below meth c Q nL N kd D cA ad pc lv (kI y :: kI x :: st) z := fun H locs ls hP hS hl => lv_iushr X.1 X.2.1 d (kI_ushr x y).symm (kk H locs ls hP hS hl)
theorem k_dup (X : kCx p R s m args c cc own nL N kd D cA ad sa) {v : Value} (d : decode cc pc = .ok (.dup, 1)) (hv : v.category = 1) (kk : kAt p l e R s m args below meth c Q nL N kd D cA ad (pc + 1) lv (v :: v :: st) z) : kAt p l e R s m args below meth c Q nL N kd D cA ad pc lv (v :: st) z := fun H locs ls hP hS hl => lv_dup X.1 X.2.1 d hv (kk H locs ls hP hS hl)
theorem k_dup2 (X : kCx p R s m args c cc own nL N kd D cA ad sa) {v w : Value} (d : decode cc pc = .ok (.dup2, 1)) (hv : v.category = 1) (hw : w.category = 1) (kk : kAt p l e R s m args below meth c Q nL N kd D cA ad (pc + 1) lv (v :: w :: v :: w :: st) z) : kAt p l e R s m args below meth c Q nL N kd D cA ad pc lv (v :: w :: st) z := fun H locs ls hP hS hl => lv_dup2_11 X.1 X.2.1 d hv hw (kk H locs ls hP hS hl)
theorem k_pop (X : kCx p R s m args c cc own nL N kd D cA ad sa) {v : Value} (d : decode cc pc = .ok (.pop, 1)) (hv : v.category = 1) (kk : kAt p l e R s m args below meth c Q nL N kd D cA ad (pc + 1) lv st z) : kAt p l e R s m args below meth c Q nL N kd D cA ad pc lv (v :: st) z := fun H locs ls hP hS hl => lv_pop X.1 X.2.1 d hv (kk H locs ls hP hS hl)
theorem k_i2b (X : kCx p R s m args c cc own nL N kd D cA ad sa) {x : Int} {P : Prop} (d : decode cc pc = .ok (.i2b, 1)) (h : by8 x ∧ P) (kk : P → kAt p l e R s m args below meth c Q nL N kd D cA ad (pc + 1) lv (kI x :: st) z) : kAt p l e R s m args below meth c Q nL N kd D cA ad pc lv (kI x :: st) z := fun H locs ls hP hS hl => lv_i2b X.1 X.2.1 d (kI_i2b h.1) (kk h.2 H locs ls hP hS hl)
theorem k_i2l (X : kCx p R s m args c cc own nL N kd D cA ad sa) {x : Int} {P : Prop} (d : decode cc pc = .ok (.i2l, 1)) (h : rg x ∧ P) (kk : P → kAt p l e R s m args below meth c Q nL N kd D cA ad (pc + 1) lv (kL x :: st) z) : kAt p l e R s m args below meth c Q nL N kd D cA ad pc lv (kI x :: st) z := fun H locs ls hP hS hl => lv_i2l X.1 X.2.1 d (kI_i2l h.1) (kk h.2 H locs ls hP hS hl)
theorem k_goto (X : kCx p R s m args c cc own nL N kd D cA ad sa) {off : Int} {tgt : Nat} (d : decode cc pc = .ok (.goto off, 3)) (ht : (pc : Int) + off = (tgt : Int)) (kk : kAt p l e R s m args below meth c Q nL N kd D cA ad tgt lv st z) : kAt p l e R s m args below meth c Q nL N kd D cA ad pc lv st z := fun H locs ls hP hS hl => lv_goto X.1 X.2.1 d ht (kk H locs ls hP hS hl)
theorem k_icmp_eq (X : kCx p R s m args c cc own nL N kd D cA ad sa) {x y : Int} {PT PF : Prop} {off : Int} {tgt : Nat} (d : decode cc pc = .ok (.if_icmp .eq off, 3)) (ht : (pc : Int) + off = (tgt : Int)) (h : rg x ∧ rg y ∧ if x = y then PT else PF) (kt : PT → kAt p l e R s m args below meth c Q nL N kd D cA ad tgt lv st z) (kf : PF → kAt p l e R s m args below meth c Q nL N kd D cA ad (pc + 3) lv st z) : kAt p l e R s m args below meth c Q nL N kd D cA ad pc lv (kI y :: kI x :: st) z := fun H locs ls hP hS hl => lv_icmp_eq X.1 X.2.1 d ht (fun q => kt (by have h3 := h.2.2; rwa [if_pos ((kI_eq h.1 h.2.1).mp q)] at h3) H locs ls hP hS hl) (fun q => kf (by have h3 := h.2.2; rwa [if_neg (fun g => q ((kI_eq h.1 h.2.1).mpr g))] at h3) H locs ls hP hS hl)
theorem k_icmp_ne (X : kCx p R s m args c cc own nL N kd D cA ad sa) {x y : Int} {PT PF : Prop} {off : Int} {tgt : Nat} (d : decode cc pc = .ok (.if_icmp .ne off, 3)) (ht : (pc : Int) + off = (tgt : Int)) (h : rg x ∧ rg y ∧ if x = y then PF else PT) (kt : PT → kAt p l e R s m args below meth c Q nL N kd D cA ad tgt lv st z) (kf : PF → kAt p l e R s m args below meth c Q nL N kd D cA ad (pc + 3) lv st z) : kAt p l e R s m args below meth c Q nL N kd D cA ad pc lv (kI y :: kI x :: st) z := fun H locs ls hP hS hl => lv_icmp_ne X.1 X.2.1 d ht (fun q => kt (by have h3 := h.2.2; rwa [if_neg (fun g => q ((kI_eq h.1 h.2.1).mpr g))] at h3) H locs ls hP hS hl) (fun q => kf (by have h3 := h.2.2; rwa [if_pos ((kI_eq h.1 h.2.1).mp q)] at h3) H locs ls hP hS hl)
theorem k_icmp_lt (X : kCx p R s m args c cc own nL N kd D cA ad sa) {x y : Int} {PT PF : Prop} {off : Int} {tgt : Nat} (d : decode cc pc = .ok (.if_icmp .lt off, 3)) (ht : (pc : Int) + off = (tgt : Int)) (h : rg x ∧ rg y ∧ if x < y then PT else PF) (kt : PT → kAt p l e R s m args below meth c Q nL N kd D cA ad tgt lv st z) (kf : PF → kAt p l e R s m args below meth c Q nL N kd D cA ad (pc + 3) lv st z) : kAt p l e R s m args below meth c Q nL N kd D cA ad pc lv (kI y :: kI x :: st) z := fun H locs ls hP hS hl => lv_icmp_lt X.1 X.2.1 d ht (fun q => kt (by have h3 := h.2.2; rwa [if_pos ((kI_lt h.1 h.2.1).mp q)] at h3) H locs ls hP hS hl) (fun q => kf (by have h3 := h.2.2; rwa [if_neg (fun g => q ((kI_lt h.1 h.2.1).mpr g))] at h3) H locs ls hP hS hl)
theorem k_icmp_le (X : kCx p R s m args c cc own nL N kd D cA ad sa) {x y : Int} {PT PF : Prop} {off : Int} {tgt : Nat} (d : decode cc pc = .ok (.if_icmp .le off, 3)) (ht : (pc : Int) + off = (tgt : Int)) (h : rg x ∧ rg y ∧ if x ≤ y then PT else PF) (kt : PT → kAt p l e R s m args below meth c Q nL N kd D cA ad tgt lv st z) (kf : PF → kAt p l e R s m args below meth c Q nL N kd D cA ad (pc + 3) lv st z) : kAt p l e R s m args below meth c Q nL N kd D cA ad pc lv (kI y :: kI x :: st) z := fun H locs ls hP hS hl => lv_icmp_le X.1 X.2.1 d ht (fun q => kt (by have h3 := h.2.2; rwa [if_pos ((kI_le h.1 h.2.1).mp q)] at h3) H locs ls hP hS hl) (fun q => kf (by have h3 := h.2.2; rwa [if_neg (fun g => q ((kI_le h.1 h.2.1).mpr g))] at h3) H locs ls hP hS hl)
theorem k_icmp_gt (X : kCx p R s m args c cc own nL N kd D cA ad sa) {x y : Int} {PT PF : Prop} {off : Int} {tgt : Nat} (d : decode cc pc = .ok (.if_icmp .gt off, 3)) (ht : (pc : Int) + off = (tgt : Int)) (h : rg x ∧ rg y ∧ if y < x then PT else PF) (kt : PT → kAt p l e R s m args below meth c Q nL N kd D cA ad tgt lv st z) (kf : PF → kAt p l e R s m args below meth c Q nL N kd D cA ad (pc + 3) lv st z) : kAt p l e R s m args below meth c Q nL N kd D cA ad pc lv (kI y :: kI x :: st) z := fun H locs ls hP hS hl => lv_icmp_gt X.1 X.2.1 d ht (fun q => kt (by have h3 := h.2.2; rwa [if_pos ((kI_lt h.2.1 h.1).mp q)] at h3) H locs ls hP hS hl) (fun q => kf (by have h3 := h.2.2; rwa [if_neg (fun g => q ((kI_lt h.2.1 h.1).mpr g))] at h3) H locs ls hP hS hl)
theorem k_icmp_ge (X : kCx p R s m args c cc own nL N kd D cA ad sa) {x y : Int} {PT PF : Prop} {off : Int} {tgt : Nat} (d : decode cc pc = .ok (.if_icmp .ge off, 3)) (ht : (pc : Int) + off = (tgt : Int)) (h : rg x ∧ rg y ∧ if y ≤ x then PT else PF) (kt : PT → kAt p l e R s m args below meth c Q nL N kd D cA ad tgt lv st z) (kf : PF → kAt p l e R s m args below meth c Q nL N kd D cA ad (pc + 3) lv st z) : kAt p l e R s m args below meth c Q nL N kd D cA ad pc lv (kI y :: kI x :: st) z := fun H locs ls hP hS hl => lv_icmp_ge X.1 X.2.1 d ht (fun q => kt (by have h3 := h.2.2; rwa [if_pos ((kI_le h.2.1 h.1).mp q)] at h3) H locs ls hP hS hl) (fun q => kf (by have h3 := h.2.2; rwa [if_neg (fun g => q ((kI_le h.2.1 h.1).mpr g))] at h3) H locs ls hP hS hl)
theorem k_if_eq (X : kCx p R s m args c cc own nL N kd D cA ad sa) {x : Int} {PT PF : Prop} {off : Int} {tgt : Nat} (d : decode cc pc = .ok (.ifCond .eq off, 3)) (ht : (pc : Int) + off = (tgt : Int)) (h : rg x ∧ if x = 0 then PT else PF) (kt : PT → kAt p l e R s m args below meth c Q nL N kd D cA ad tgt lv st z) (kf : PF → kAt p l e R s m args below meth c Q nL N kd D cA ad (pc + 3) lv st z) : kAt p l e R s m args below meth c Q nL N kd D cA ad pc lv (kI x :: st) z := fun H locs ls hP hS hl => lv_if_eq X.1 X.2.1 d ht (fun q => kt (by have h3 := h.2; rwa [if_pos ((kI_eq h.1 rg0).mp q)] at h3) H locs ls hP hS hl) (fun q => kf (by have h3 := h.2; rwa [if_neg (fun g => q ((kI_eq h.1 rg0).mpr g))] at h3) H locs ls hP hS hl)
theorem k_if_ne (X : kCx p R s m args c cc own nL N kd D cA ad sa) {x : Int} {PT PF : Prop} {off : Int} {tgt : Nat} (d : decode cc pc = .ok (.ifCond .ne off, 3)) (ht : (pc : Int) + off = (tgt : Int)) (h : rg x ∧ if x = 0 then PF else PT) (kt : PT → kAt p l e R s m args below meth c Q nL N kd D cA ad tgt lv st z) (kf : PF → kAt p l e R s m args below meth c Q nL N kd D cA ad (pc + 3) lv st z) : kAt p l e R s m args below meth c Q nL N kd D cA ad pc lv (kI x :: st) z := fun H locs ls hP hS hl => lv_if_ne X.1 X.2.1 d ht (fun q => kt (by have h3 := h.2; rwa [if_neg (fun g => q ((kI_eq h.1 rg0).mpr g))] at h3) H locs ls hP hS hl) (fun q => kf (by have h3 := h.2; rwa [if_pos ((kI_eq h.1 rg0).mp q)] at h3) H locs ls hP hS hl)
theorem k_if_lt (X : kCx p R s m args c cc own nL N kd D cA ad sa) {x : Int} {PT PF : Prop} {off : Int} {tgt : Nat} (d : decode cc pc = .ok (.ifCond .lt off, 3)) (ht : (pc : Int) + off = (tgt : Int)) (h : rg x ∧ if x < 0 then PT else PF) (kt : PT → kAt p l e R s m args below meth c Q nL N kd D cA ad tgt lv st z) (kf : PF → kAt p l e R s m args below meth c Q nL N kd D cA ad (pc + 3) lv st z) : kAt p l e R s m args below meth c Q nL N kd D cA ad pc lv (kI x :: st) z := fun H locs ls hP hS hl => lv_if_lt X.1 X.2.1 d ht (fun q => kt (by have h3 := h.2; rwa [if_pos ((kI_lt h.1 rg0).mp q)] at h3) H locs ls hP hS hl) (fun q => kf (by have h3 := h.2; rwa [if_neg (fun g => q ((kI_lt h.1 rg0).mpr g))] at h3) H locs ls hP hS hl)
theorem k_if_le (X : kCx p R s m args c cc own nL N kd D cA ad sa) {x : Int} {PT PF : Prop} {off : Int} {tgt : Nat} (d : decode cc pc = .ok (.ifCond .le off, 3)) (ht : (pc : Int) + off = (tgt : Int)) (h : rg x ∧ if x ≤ 0 then PT else PF) (kt : PT → kAt p l e R s m args below meth c Q nL N kd D cA ad tgt lv st z) (kf : PF → kAt p l e R s m args below meth c Q nL N kd D cA ad (pc + 3) lv st z) : kAt p l e R s m args below meth c Q nL N kd D cA ad pc lv (kI x :: st) z := fun H locs ls hP hS hl => lv_if_le X.1 X.2.1 d ht (fun q => kt (by have h3 := h.2; rwa [if_pos ((kI_le h.1 rg0).mp q)] at h3) H locs ls hP hS hl) (fun q => kf (by have h3 := h.2; rwa [if_neg (fun g => q ((kI_le h.1 rg0).mpr g))] at h3) H locs ls hP hS hl)
theorem k_if_gt (X : kCx p R s m args c cc own nL N kd D cA ad sa) {x : Int} {PT PF : Prop} {off : Int} {tgt : Nat} (d : decode cc pc = .ok (.ifCond .gt off, 3)) (ht : (pc : Int) + off = (tgt : Int)) (h : rg x ∧ if 0 < x then PT else PF) (kt : PT → kAt p l e R s m args below meth c Q nL N kd D cA ad tgt lv st z) (kf : PF → kAt p l e R s m args below meth c Q nL N kd D cA ad (pc + 3) lv st z) : kAt p l e R s m args below meth c Q nL N kd D cA ad pc lv (kI x :: st) z := fun H locs ls hP hS hl => lv_if_gt X.1 X.2.1 d ht (fun q => kt (by have h3 := h.2; rwa [if_pos ((kI_lt rg0 h.1).mp q)] at h3) H locs ls hP hS hl) (fun q => kf (by have h3 := h.2; rwa [if_neg (fun g => q ((kI_lt rg0 h.1).mpr g))] at h3) H locs ls hP hS hl)
theorem k_if_ge (X : kCx p R s m args c cc own nL N kd D cA ad sa) {x : Int} {PT PF : Prop} {off : Int} {tgt : Nat} (d : decode cc pc = .ok (.ifCond .ge off, 3)) (ht : (pc : Int) + off = (tgt : Int)) (h : rg x ∧ if 0 ≤ x then PT else PF) (kt : PT → kAt p l e R s m args below meth c Q nL N kd D cA ad tgt lv st z) (kf : PF → kAt p l e R s m args below meth c Q nL N kd D cA ad (pc + 3) lv st z) : kAt p l e R s m args below meth c Q nL N kd D cA ad pc lv (kI x :: st) z := fun H locs ls hP hS hl => lv_if_ge X.1 X.2.1 d ht (fun q => kt (by have h3 := h.2; rwa [if_pos ((kI_le rg0 h.1).mp q)] at h3) H locs ls hP hS hl) (fun q => kf (by have h3 := h.2; rwa [if_neg (fun g => q ((kI_le rg0 h.1).mpr g))] at h3) H locs ls hP hS hl)
theorem kcell_o {kd : Nat → Nat × Nat × Nat} {c ci n : Nat} (h : kd c = (0, ci, n)) : kcell kd cA ad z c = .inr (ci, (List.range n).map (kval ad z c ci)) := by simp [kcell, h]
theorem kcell_i {kd : Nat → Nat × Nat × Nat} {c n b : Nat} (h : kd c = (1, n, b)) : kcell kd cA ad z c = .inl (cA 0, n, .inl (fun j => Int32.ofInt (z c j))) := by simp [kcell, h]
theorem kcell_b {kd : Nat → Nat × Nat × Nat} {c n b : Nat} (h : kd c = (2, n, b)) : kcell kd cA ad z c = .inl (cA 1, n, .inl (fun j => Int32.ofInt (z c j))) := by simp [kcell, h]
theorem kcell_r {kd : Nat → Nat × Nat × Nat} {c n b : Nat} (h : kd c = (3, n, b)) : kcell kd cA ad z c = .inl (cA b, n, .inr (.inr (.inr (.inr (fun j => some (ad (c + 1 + j))))))) := by simp [kcell, h]
theorem kcell_eq {kd : Nat → Nat × Nat × Nat} {z z' : Hp} {b : Nat} (h : ∀ j, z' b j = z b j) : kcell kd cA ad z' b = kcell kd cA ad z b := by
  have e : z' b = z b := funext h
  have e2 : kval ad z' b = kval ad z b := by
    funext ci j
    unfold kval
    rw [e]
  unfold kcell
  rw [e2, e]
theorem kup_ne {z : Hp} {c j b : Nat} {x : Int} (h : b ≠ c) (i : Nat) : kup z c j x b i = z b i := if_neg (fun q => h q.1)
theorem kfs_get {c ci n j : Nat} (h : j < n) : ((List.range n).map (kval ad z c ci))[j]? = some (kval ad z c ci j) := by rw [List.getElem?_map, List.getElem?_range h]; rfl
/-- a field's place: link own idx speaks of field j of class ci (n fields) -/
def kF (own : String) (idx ci j n : Nat) : Prop := ∃ (C : String) (T : u_T), vwCl[ci]? = some (C, T, n) ∧ j < n ∧ (∀ w ∈ u_ws C T n, w ∈ GW) ∧ Cond.fieldLink own idx (T j).1 (T j).2.1 (T j).2.2.1 ∈ GW
/-- .. that may be written, of type ty -/
def kFP (own : String) (idx ci j n : Nat) (ty : FieldType) : Prop := ∃ (C : String) (T : u_T) (t0 : Nat → FieldType), vwCl[ci]? = some (C, T, n) ∧ j < n ∧ (∀ w ∈ u_ws C T n, w ∈ GW) ∧ Cond.fieldLink own idx (T j).1 (T j).2.1 (T j).2.2.1 ∈ GW ∧
  (∀ k, k < n → parseFieldDescriptor (T k).2.2.1 = some (t0 k)) ∧ (∀ a, a < n → ∀ b, b < n → a ≠ b → (T a).2.1 ≠ (T b).2.1) ∧ (T j).2.2.2 = false ∧ t0 j = ty
theorem k_getI (X : kCx p R s m args c cc own nL N kd D cA ad sa) {idx ci j n b : Nat} (F : kF own idx ci j n) (hk : kd b = (0, ci, n)) (hr : kro ci j = 0) (d : decode cc pc = .ok (.getfield idx, 3)) (kk : kAt p l e R s m args below meth c Q nL N kd D cA ad (pc + 3) lv (kI (z b j) :: st) z) : kAt p l e R s m args below meth c Q nL N kd D cA ad pc lv (.ref (ad b) :: st) z := by
  obtain ⟨C, T, h1, h2, h3, h4⟩ := F
  obtain ⟨x1, x2, x3, x4, x5, x6, x7, x8, x9⟩ := X
  intro H locs ls hP hS hl
  have hb : b < N := x8 b (by rw [hk]; exact kne (by decide))
  refine va_get (Ts := GW) x1 x2 x5 h3 x4 x6 hP b (by rw [kW_get hb, kcell_o hk]) h1 j h2 (x5 _ h4) (fun _ h => h) (by rw [kfs_get h2, kval, if_pos hr]) d ?_
  exact kk H locs ls hP hS hl
theorem k_getR (X : kCx p R s m args c cc own nL N kd D cA ad sa) {idx ci j n b t : Nat} (F : kF own idx ci j n) (hk : kd b = (0, ci, n)) (hr : kro ci j ≠ 0) (ht : b + kro ci j = t) (d : decode cc pc = .ok (.getfield idx, 3)) (kk : kAt p l e R s m args below meth c Q nL N kd D cA ad (pc + 3) lv (.ref (ad t) :: st) z) : kAt p l e R s m args below meth c Q nL N kd D cA ad pc lv (.ref (ad b) :: st) z := by
  obtain ⟨C, T, h1, h2, h3, h4⟩ := F
  obtain ⟨x1, x2, x3, x4, x5, x6, x7, x8, x9⟩ := X
  intro H locs ls hP hS hl
  have hb : b < N := x8 b (by rw [hk]; exact kne (by decide))
  refine va_get (Ts := GW) x1 x2 x5 h3 x4 x6 hP b (by rw [kW_get hb, kcell_o hk]) h1 j h2 (x5 _ h4) (fun _ h => h) (by rw [kfs_get h2, kval, if_neg hr, ht]) d ?_
  exact kk H locs ls hP hS hl
theorem kW_setf {c ci n j : Nat} {x : Int} (hk : kd c = (0, ci, n)) (hr : kro ci j = 0) (hc : c < N) (hj : j < n) : (kW N kd cA ad z).set c (ad c, .inr (ci, ((List.range n).map (kval ad z c ci)).set j (.int (Int32.ofInt x)))) = kW N kd cA ad (kup z c j x) := by
  refine kW_set hc ?_ (fun b hb => ?_)
  · rw [kcell_o hk]
    congr 2
    apply List.ext_getElem?
    intro i
    by_cases hi : i < n
    · rw [kfs_get hi]
      by_cases hij : j = i
      · subst hij
        rw [List.getElem?_set_self (by simpa using hi)]
        simp [kval, hr, kup]
      · rw [List.getElem?_set_ne hij, kfs_get hi]
        have e : kup z c j x c i = z c i := if_neg (fun q => hij q.2.symm)
        unfold kval
        rw [e]
    · rw [List.getElem?_eq_none (by simpa using hi), List.getElem?_eq_none (by simpa using hi)]
  · exact kcell_eq (fun i => kup_ne hb i)
theorem k_putI (X : kCx p R s m args c cc own nL N kd D cA ad sa) {idx ci j n b : Nat} {x : Int} (F : kFP own idx ci j n .int) (hk : kd b = (0, ci, n)) (hr : kro ci j = 0) (d : decode cc pc = .ok (.putfield idx, 3)) (kk : kAt p l e R s m args below meth c Q nL N kd D cA ad (pc + 3) lv st (kup z b j x)) : kAt p l e R s m args below meth c Q nL N kd D cA ad pc lv (kI x :: .ref (ad b) :: st) z := by
  obtain ⟨C, T, t0, h1, h2, h3, h4, h5, h6, h7, h8⟩ := F
  obtain ⟨x1, x2, x3, x4, x5, x6, x7, x8, x9⟩ := X
  intro H locs ls hP hS hl
  have hb : b < N := x8 b (by rw [hk]; exact kne (by decide))
  refine va_put (Ts := GW) x1 x2 x5 h3 t0 h5 h6 x4 x6 hP (kD x7 z) hS b (by rw [kW_get hb, kcell_o hk]) h1 j h2 (x5 _ h4) (fun _ h => h) h7 (ty := .int) (by rw [← h8]; exact h5 j h2) rfl rfl (by simpa using h2) d (fun H1 locs1 hP1 _ hS1 => ?_)
  have e := kW_setf (cA := cA) (ad := ad) (z := z) (x := x) hk hr hb h2
  exact kk H1 locs1 ls (by unfold kPic; rw [← e]; exact hP1) hS1 hl
theorem k_putZ (X : kCx p R s m args c cc own nL N kd D cA ad sa) {idx ci j n b : Nat} {x : Int} (F : kFP own idx ci j n .boolean) (hk : kd b = (0, ci, n)) (hr : kro ci j = 0) (hx : bz x) (d : decode cc pc = .ok (.putfield idx, 3)) (kk : kAt p l e R s m args below meth c Q nL N kd D cA ad (pc + 3) lv st (kup z b j x)) : kAt p l e R s m args below meth c Q nL N kd D cA ad pc lv (kI x :: .ref (ad b) :: st) z := by
  obtain ⟨C, T, t0, h1, h2, h3, h4, h5, h6, h7, h8⟩ := F
  obtain ⟨x1, x2, x3, x4, x5, x6, x7, x8, x9⟩ := X
  intro H locs ls hP hS hl
  have hb : b < N := x8 b (by rw [hk]; exact kne (by decide))
  refine va_put (Ts := GW) x1 x2 x5 h3 t0 h5 h6 x4 x6 hP (kD x7 z) hS b (by rw [kW_get hb, kcell_o hk]) h1 j h2 (x5 _ h4) (fun _ h => h) h7 (ty := .boolean) (by rw [← h8]; exact h5 j h2) (kI_bool hx) (by rcases hx with rfl | rfl <;> decide +kernel) (by simpa using h2) d (fun H1 locs1 hP1 _ hS1 => ?_)
  have e := kW_setf (cA := cA) (ad := ad) (z := z) (x := x) hk hr hb h2
  exact kk H1 locs1 ls (by unfold kPic; rw [← e]; exact hP1) hS1 hl
theorem k_iald (X : kCx p R s m args c cc own nL N kd D cA ad sa) {b n u : Nat} {i : Int} {P : Prop} (hk : kd b = (1, n, u)) (hn : n ≤ 2147483648) (d : decode cc pc = .ok (.iaload, 1)) (h : inb i n ∧ P) (kk : P → kAt p l e R s m args below meth c Q nL N kd D cA ad (pc + 1) lv (kI (z b i.toNat) :: st) z) : kAt p l e R s m args below meth c Q nL N kd D cA ad pc lv (kI i :: .ref (ad b) :: st) z := by
  obtain ⟨x1, x2, x3, x4, x5, x6, x7, x8, x9⟩ := X
  intro H locs ls hP hS hl
  have hb : b < N := x8 b (by rw [hk]; exact kne (by decide))
  refine va_iald x1 x2 x6 hP b 0 (by rw [kW_get hb, kcell_i hk]) rfl (kI_in h.1 hn) d ?_
  rw [kI_clamp h.1 hn]
  exact kk h.2 H locs ls hP hS hl
theorem k_bald (X : kCx p R s m args c cc own nL N kd D cA ad sa) {b n u : Nat} {i : Int} {P : Prop} (hk : kd b = (2, n, u)) (hn : n ≤ 2147483648) (d : decode cc pc = .ok (.baload, 1)) (h : inb i n ∧ P) (kk : P → kAt p l e R s m args below meth c Q nL N kd D cA ad (pc + 1) lv (kI (z b i.toNat) :: st) z) : kAt p l e R s m args below meth c Q nL N kd D cA ad pc lv (kI i :: .ref (ad b) :: st) z := by
  obtain ⟨x1, x2, x3, x4, x5, x6, x7, x8, x9⟩ := X
  intro H locs ls hP hS hl
  have hb : b < N := x8 b (by rw [hk]; exact kne (by decide))
  refine va_bald x1 x2 x6 hP b 1 (by rw [kW_get hb, kcell_b hk]) rfl (kI_in h.1 hn) d ?_
  rw [kI_clamp h.1 hn]
  exact kk h.2 H locs ls hP hS hl
theorem kW_seti {c n u k : Nat} {x : Int} (hk : kd c = (1, n, u)) (hc : c < N) : (kW N kd cA ad z).set c (ad c, .inl (cA 0, n, .inl (upd (fun j => Int32.ofInt (z c j)) k (Int32.ofInt x)))) = kW N kd cA ad (kup z c k x) := by
  refine kW_set hc ?_ (fun b hb => ?_)
  · rw [kcell_i hk]
    congr 4
    funext j
    by_cases hj : j = k
    · simp [upd, kup, hj]
    · simp [upd, kup, hj]
  · exact kcell_eq (fun i => kup_ne hb i)
theorem kW_setb {c n u k : Nat} {x : Int} (hk : kd c = (2, n, u)) (hc : c < N) : (kW N kd cA ad z).set c (ad c, .inl (cA 1, n, .inl (upd (fun j => Int32.ofInt (z c j)) k (Int32.ofInt x)))) = kW N kd cA ad (kup z c k x) := by
  refine kW_set hc ?_ (fun b hb => ?_)
  · rw [kcell_b hk]
    congr 4
    funext j
    by_cases hj : j = k
    · simp [upd, kup, hj]
    · simp [upd, kup, hj]
  · exact kcell_eq (fun i => kup_ne hb i)
theorem k_iast (X : kCx p R s m args c cc own nL N kd D cA ad sa) {b n u : Nat} {i x : Int} {P : Prop} (hk : kd b = (1, n, u)) (hn : n ≤ 2147483648) (d : decode cc pc = .ok (.iastore, 1)) (h : inb i n ∧ P) (kk : P → kAt p l e R s m args below meth c Q nL N kd D cA ad (pc + 1) lv st (kup z b i.toNat x)) : kAt p l e R s m args below meth c Q nL N kd D cA ad pc lv (kI x :: kI i :: .ref (ad b) :: st) z := by
  obtain ⟨x1, x2, x3, x4, x5, x6, x7, x8, x9⟩ := X
  intro H locs ls hP hS hl
  have hb : b < N := x8 b (by rw [hk]; exact kne (by decide))
  refine va_iast x1 x2 x6 hP (kD x7 z) hS b 0 (by rw [kW_get hb, kcell_i hk]) rfl (kI_in h.1 hn) d (fun H1 locs1 hP1 _ hS1 => ?_)
  rw [kI_clamp h.1 hn] at hP1
  refine kk h.2 H1 locs1 ls ?_ hS1 hl
  unfold kPic
  rw [← kW_seti hk hb]
  exact hP1
theorem k_bast (X : kCx p R s m args c cc own nL N kd D cA ad sa) {b n u : Nat} {i x : Int} {P : Prop} (hk : kd b = (2, n, u)) (hn : n ≤ 2147483648) (d : decode cc pc = .ok (.bastore, 1)) (h : by8 x ∧ inb i n ∧ P) (kk : P → kAt p l e R s m args below meth c Q nL N kd D cA ad (pc + 1) lv st (kup z b i.toNat x)) : kAt p l e R s m args below meth c Q nL N kd D cA ad pc lv (kI x :: kI i :: .ref (ad b) :: st) z := by
  obtain ⟨x1, x2, x3, x4, x5, x6, x7, x8, x9⟩ := X
  intro H locs ls hP hS hl
  have hb : b < N := x8 b (by rw [hk]; exact kne (by decide))
  refine va_bast x1 x2 x6 hP (kD x7 z) hS b 1 (by rw [kW_get hb, kcell_b hk]) rfl (kI_in h.2.1 hn) d (fun H1 locs1 hP1 _ hS1 => ?_)
  rw [kI_clamp h.2.1 hn, vp_nar_byte, kI_i2b h.1] at hP1
  refine kk h.2.2 H1 locs1 ls ?_ hS1 hl
  unfold kPic
  rw [← kW_setb hk hb]
  exact hP1
theorem k_aald (X : kCx p R s m args c cc own nL N kd D cA ad sa) {b n u : Nat} {ty : FieldType} {i : Int} {P : Prop} (hk : kd b = (3, n, u)) (ht : (kTys cA)[u]? = some (cA u, ty)) (hty : ty.isReference = true) (hn : n ≤ 2147483648) (d : decode cc pc = .ok (.aaload, 1)) (h : inb i n ∧ P) (kk : P → kAt p l e R s m args below meth c Q nL N kd D cA ad (pc + 1) lv (.ref (ad (b + 1 + i.toNat)) :: st) z) : kAt p l e R s m args below meth c Q nL N kd D cA ad pc lv (kI i :: .ref (ad b) :: st) z := by
  obtain ⟨x1, x2, x3, x4, x5, x6, x7, x8, x9⟩ := X
  intro H locs ls hP hS hl
  have hb : b < N := x8 b (by rw [hk]; exact kne (by decide))
  have hlt : (Int32.ofInt i).toNatClampNeg < n := by rw [kI_clamp h.1 hn]; have := h.1.1; have := h.1.2; omega
  have hc := hP b _ (by rw [kW_get hb, kcell_r hk])
  refine W.aald (v := .ref (ad (b + 1 + i.toNat))) (ty := ty) x1 x2 hc ((x6.2 u _ ht).1 n (fun j => va_rf (some (ad (b + 1 + j))))) hty (fun q => by cases q) (by show ¬ (Int32.ofInt i < 0 ∨ (arrV _ _ _).slots.size ≤ _); rw [arrV_size]; exact kI_in h.1 hn) (by show (arrV _ _ _).slots[_]? = _; rw [arrV_read _ _ hlt, kI_clamp h.1 hn]; rfl) rfl rfl d ?_
  exact kk h.2 H locs ls hP hS hl
theorem k_alen (X : kCx p R s m args c cc own nL N kd D cA ad sa) {b t n u : Nat} (hk : kd b = (t + 1, n, u)) (ht : t < 2) (d : decode cc pc = .ok (.arraylength, 1)) (kk : kAt p l e R s m args below meth c Q nL N kd D cA ad (pc + 1) lv (kI n :: st) z) : kAt p l e R s m args below meth c Q nL N kd D cA ad pc lv (.ref (ad b) :: st) z := by
  obtain ⟨x1, x2, x3, x4, x5, x6, x7, x8, x9⟩ := X
  intro H locs ls hP hS hl
  have hb : b < N := x8 b (by rw [hk]; exact kne (by omega))
  have e : Int32.ofNat n = Int32.ofInt (n : Int) := Int32.ofInt_eq_ofNat.symm
  rcases (show t = 0 ∨ t = 1 by omega) with rfl | rfl
  · exact va_alen x1 x2 x6 hP b 0 (by rw [kW_get hb, kcell_i hk]) rfl e d (kk H locs ls hP hS hl)
  · exact va_alen x1 x2 x6 hP b 1 (by rw [kW_get hb, kcell_b hk]) rfl e d (kk H locs ls hP hS hl)
theorem kEnv.same {A : Nat → Prop} {sa : Nat → Nat} {u U : State} {H : Heap} (hv : U.vm = u.vm) (h : kEnv A sa u H) : kEnv A sa U H := by
  have ha : u.vm.Alike U.vm := by rw [hv]; exact Vm.Alike.refl _
  obtain ⟨h1, ⟨t, h2, h3⟩, h4, h5⟩ := h
  exact ⟨fun k hk => ⟨(h1 k hk).1.moved ha, (h1 k hk).2.same hv⟩, ⟨t, h2.moved ha, h3.moved ha⟩, h4.moved ha, h5.moved ha⟩
/-- a method's start and end -/
def kPc (N : Nat) (kd : Nat → Nat × Nat × Nat) (D : va_G) (cA : Nat → ClassId) (ad sa : Nat → Nat) (as : List Value) (z : Hp) : Array Value → State → Prop := va_Pc as (fun U => kPic N kd D cA ad z U.heap ∧ va_K D vwCl (kTys cA) U ∧ kEnv (kA N ad) sa U U.heap)
def kQi (N : Nat) (kd : Nat → Nat × Nat × Nat) (D : va_G) (cA : Nat → ClassId) (ad : Nat → Nat) (post : Int → Hp → Prop) : Array Value → State → Outcome → State → Prop := va_Qi (fun (r : Int32) (z' : Hp) => ∃ v : Int, r = Int32.ofInt v ∧ post v z') (fun z' t => kPic N kd D cA ad z' t.heap) (kA N ad)
def kQl (N : Nat) (kd : Nat → Nat × Nat × Nat) (D : va_G) (cA : Nat → ClassId) (ad : Nat → Nat) (post : Int → Hp → Prop) : Array Value → State → Outcome → State → Prop := va_Ql (fun (r : Int64) (z' : Hp) => ∃ v : Int, r = Int64.ofInt v ∧ post v z') (fun z' t => kPic N kd D cA ad z' t.heap) (kA N ad)
def kQv (N : Nat) (kd : Nat → Nat × Nat × Nat) (D : va_G) (cA : Nat → ClassId) (ad : Nat → Nat) (post : Hp → Prop) : Array Value → State → Outcome → State → Prop := va_Qv post (fun z' t => kPic N kd D cA ad z' t.heap) (kA N ad)
def kMet (l : Launch) (y : MethodName) (bytes : ByteArray) (maxL : Nat) (ret : Option FieldType) (d N : Nat) (kd : Nat → Nat × Nat × Nat) (D : va_G) (cA : Nat → ClassId) (ad sa : Nat → Nat) (as : List Value) (z : Hp) (Qc : Array Value → State → Outcome → State → Prop) : Prop := Met l y (Cond.code y bytes maxL ret :: GW) (kR d) (kPc N kd D cA ad sa as z) Qc 0 0 (kA N ad)
theorem k_frameBlind {as : List Value} : FrameBlind (kPc N kd D cA ad sa as z) := by
  intro a U g mk q
  obtain ⟨q0, q1, q2, q3⟩ := q
  exact ⟨q0, q1, va_K.moved (u := U) (U := U.calling g mk a) (Vm.Alike.refl U.vm) q2, kEnv.same (u := U) (U := U.calling g mk a) rfl q3⟩
theorem k_preOf (X : kCx p R s m args c cc own nL N kd D cA ad sa) {H : Heap} {locs : List Loc} {as : List Value} (hP : kPic N kd D cA ad z H) (hS : va_S (kA N ad) s.heap H locs) (U : State) (hU : U.heap = H) (hW : s.WarmedH U.vm) : kPc N kd D cA ad sa as z as.toArray U := by
  obtain ⟨x1, x2, x3, x4, x5, x6, x7, x8, x9⟩ := X
  exact ⟨rfl, by rw [hU]; exact hP, va_K.moved hW.alike x6, by rw [hU]; exact kEnv.moved hW (kEnv.kept x9 hS.2.1)⟩
/-- the words of a call, virtual and static -/
theorem k_lkV {own : String} {idx : Nat} {C : String} {y : MethodName} {bytes : ByteArray} {maxL : Nat} {ret : Option FieldType} (h0 : ∀ w ∈ GW, goodWord w = true) (h1 : Cond.methodLink own idx y ∈ GW) (h2 : Cond.instanceMethod y ∈ GW) (h3 : Cond.selects C y y ∈ GW) (h4 : Cond.initialized C ∈ GW) (h5 : Cond.code y bytes maxL ret ∈ GW) : GoodIn GW (wsV own idx C y (Cond.code y bytes maxL ret :: GW)) := by
  have H : ∀ w ∈ GW, w ∈ GW ∧ ((w.onTables && w.keeps) = true ∨ ∃ ty, w = .arrayClass ty) := fun w hw => ⟨hw, good_of_word (h0 w hw)⟩
  intro w hw
  unfold wsV at hw
  simp only [List.cons_append, List.nil_append, List.mem_cons] at hw
  rcases hw with rfl | rfl | rfl | rfl | rfl | hw
  · exact H _ h1
  · exact H _ h2
  · exact H _ h3
  · exact H _ h4
  · exact H _ h5
  · exact H _ hw
theorem k_lkS {own : String} {idx : Nat} {y : MethodName} {bytes : ByteArray} {maxL : Nat} {ret : Option FieldType} (h0 : ∀ w ∈ GW, goodWord w = true) (h1 : Cond.methodLink own idx y ∈ GW) (h2 : Cond.static y ∈ GW) (h4 : Cond.initialized y.cls ∈ GW) (h5 : Cond.code y bytes maxL ret ∈ GW) : GoodIn GW (Cond.methodLink own idx y :: Cond.static y :: Cond.initialized y.cls :: Cond.code y bytes maxL ret :: GW) := by
  have H : ∀ w ∈ GW, w ∈ GW ∧ ((w.onTables && w.keeps) = true ∨ ∃ ty, w = .arrayClass ty) := fun w hw => ⟨hw, good_of_word (h0 w hw)⟩
  intro w hw
  simp only [List.mem_cons] at hw
  rcases hw with rfl | rfl | rfl | rfl | hw
  · exact H _ h1
  · exact H _ h2
  · exact H _ h4
  · exact H _ h5
  · exact H _ hw
def kyOk (y : MethodName) (n : Nat) : Prop := y.cls ≠ "java/lang/invoke/MethodHandle" ∧ y.cls ≠ "java/lang/invoke/VarHandle" ∧ (parseMethodDescriptor y.desc).map (fun d => d.parameters.length) = some n
section KRUN
variable {y : MethodName} {bytes : ByteArray} {maxL : Nat} {ret : Option FieldType} {dd idx n : Nat} {As : List Value} {Qc : Array Value → State → Outcome → State → Prop}
theorem k_runV {C : String} {b ci nf : Nat} {T : u_T} {H : Heap} {locs : List Loc} {ls : Array Slot} (X : kCx p R s m args c cc own nL N kd D cA ad sa) (L : GoodIn GW (wsV own idx C y (Cond.code y bytes maxL ret :: GW))) (hC : y.cls = C) (hy : kyOk y n) (hn : As.length = n) (hR : dd + 1 ≤ R.frames ∧ 8 + (maxL + 11) + 64 * dd ≤ R.locals)
    (hM : kMet l y bytes maxL ret dd N kd D cA ad sa (.ref (ad b) :: As) z Qc) (hk : kd b = (0, ci, nf)) (hc : vwCl[ci]? = some (C, T, nf)) (hst : (st.map fun v => v.category).sum ≤ 8) (d : decode cc pc = .ok (.invokevirtual idx, 3))
    (hP : kPic N kd D cA ad z H) (hS : va_S (kA N ad) s.heap H locs) (hl : lv_has ls nL lv) : va_Run p l e R s m args below meth c H locs 0 0 0 0 (F0 m pc ls (As.reverse ++ .ref (ad b) :: st)) st (Qc (Value.ref (ad b) :: As).toArray) (kA N ad) := by
  have X0 := X
  obtain ⟨x1, x2, x3, x4, x5, x6, x7, x8, x9⟩ := X
  have hb : b < N := x8 b (by rw [hk]; exact kne (by decide))
  exact va_runV (As := As) (rest := st) (Ts := GW) ⟨x1, x2, x3, x4, x5⟩ hM (cwV n x5 L rfl rfl rfl ⟨hC, hy.1, hy.2.1, hy.2.2⟩ hR) ⟨k_frameBlind, va_recv x6 hP hc (by rw [kW_get hb, kcell_o hk]), k_preOf X0 hP hS⟩ rfl hn hl.1 rfl (lv_room hst) d ⟨Nat.zero_le _, Nat.zero_le _⟩
theorem k_runS {H : Heap} {locs : List Loc} {ls : Array Slot} (X : kCx p R s m args c cc own nL N kd D cA ad sa) (L : GoodIn GW (Cond.methodLink own idx y :: Cond.static y :: Cond.initialized y.cls :: Cond.code y bytes maxL ret :: GW)) (hy : kyOk y n) (hn : As.length = n) (hR : dd + 1 ≤ R.frames ∧ 8 + (maxL + 11) + 64 * dd ≤ R.locals)
    (hM : kMet l y bytes maxL ret dd N kd D cA ad sa As z Qc) (hst : (st.map fun v => v.category).sum ≤ 8) (d : decode cc pc = .ok (.invokestatic idx, 3))
    (hP : kPic N kd D cA ad z H) (hS : va_S (kA N ad) s.heap H locs) (hl : lv_has ls nL lv) : va_Run p l e R s m args below meth c H locs 0 0 0 0 (F0 m pc ls (As.reverse ++ st)) st (Qc As.toArray) (kA N ad) := by
  have X0 := X
  obtain ⟨x1, x2, x3, x4, x5, x6, x7, x8, x9⟩ := X
  have hg : GoodIn GW (Cond.code y bytes maxL ret :: GW) := fun w hw => L w (List.mem_cons_of_mem _ (List.mem_cons_of_mem _ (List.mem_cons_of_mem _ hw)))
  have w1 := x5 _ (L _ (List.mem_cons_self)).1
  have w2 := x5 _ (L _ (List.mem_cons_of_mem _ List.mem_cons_self)).1
  have w3 := x5 _ (L _ (List.mem_cons_of_mem _ (List.mem_cons_of_mem _ List.mem_cons_self))).1
  exact va_runS (As := As) (rest := st) (Ts := GW) ⟨x1, x2, x3, x4, x5⟩ hM ⟨callB_of n x5 hg rfl rfl rfl w3 w1 hy hR, w2⟩ ⟨k_frameBlind, k_preOf X0 hP hS⟩ rfl hn hl.1 rfl (lv_room hst) d ⟨Nat.zero_le _, Nat.zero_le _⟩
end KRUN
theorem k_afterI {post : Int → Hp → Prop} {st0 : List Value} {a : Array Value} (hr : ∀ (H : Heap) (locs : List Loc) (ls : Array Slot), kPic N kd D cA ad z H → va_S (kA N ad) s.heap H locs → lv_has ls nL lv → va_Run p l e R s m args below meth c H locs 0 0 0 0 (F0 m pc ls st0) st (kQi N kd D cA ad post a) (kA N ad)) (kk : ∀ v z', post v z' → kAt p l e R s m args below meth c Q nL N kd D cA ad (pc + 3) lv (kI v :: st) z') : kAt p l e R s m args below meth c Q nL N kd D cA ad pc lv st0 z := by
  intro H locs ls hP hS hl
  refine va_calli (hr H locs ls hP hS hl) hS (fun q _ h => h) (fun q h => h) (fun r u t H1 locs1 ht hvm hp hB hz hk hS1 => ?_)
  obtain ⟨v, rfl, hp⟩ := hp
  rw [ht] at hB
  exact kk v u hp H1 locs1 ls hB hS1 hl
theorem k_afterL {post : Int → Hp → Prop} {st0 : List Value} {a : Array Value} (hr : ∀ (H : Heap) (locs : List Loc) (ls : Array Slot), kPic N kd D cA ad z H → va_S (kA N ad) s.heap H locs → lv_has ls nL lv → va_Run p l e R s m args below meth c H locs 0 0 0 0 (F0 m pc ls st0) st (kQl N kd D cA ad post a) (kA N ad)) (kk : ∀ v z', post v z' → kAt p l e R s m args below meth c Q nL N kd D cA ad (pc + 3) lv (kL v :: st) z') : kAt p l e R s m args below meth c Q nL N kd D cA ad pc lv st0 z := by
  intro H locs ls hP hS hl
  refine va_calll (hr H locs ls hP hS hl) hS (fun q _ h => h) (fun q h => h) (fun r u t H1 locs1 ht hvm hp hB hz hk hS1 => ?_)
  obtain ⟨v, rfl, hp⟩ := hp
  rw [ht] at hB
  exact kk v u hp H1 locs1 ls hB hS1 hl
theorem k_afterV {post : Hp → Prop} {st0 : List Value} {a : Array Value} (hr : ∀ (H : Heap) (locs : List Loc) (ls : Array Slot), kPic N kd D cA ad z H → va_S (kA N ad) s.heap H locs → lv_has ls nL lv → va_Run p l e R s m args below meth c H locs 0 0 0 0 (F0 m pc ls st0) st (kQv N kd D cA ad post a) (kA N ad)) (kk : ∀ z', post z' → kAt p l e R s m args below meth c Q nL N kd D cA ad (pc + 3) lv st z') : kAt p l e R s m args below meth c Q nL N kd D cA ad pc lv st0 z := by
  intro H locs ls hP hS hl
  refine va_callv (hr H locs ls hP hS hl) hS (fun q _ h => h) (fun q h => h) (fun u t H1 locs1 ht hvm hp hB hz hk hS1 => ?_)
  rw [ht] at hB
  exact kk u hp H1 locs1 ls hB hS1 hl
theorem k_iret {post : Int → Hp → Prop} {x : Int} (X : kCx p R s m args c cc own nL N kd D cA ad sa) (hr : meth.sig.returnType = some .int) (hk : meth.locks = false) (d : decode cc pc = .ok (.ireturn, 1)) (h : post x z) : kAt p l e R s m args below meth c (MQ below (kQi N kd D cA ad post) args s 0 0 (kA N ad)) nL N kd D cA ad pc lv [kI x] z := by
  intro H locs ls hP hS hl
  exact W.iret (Qc := kQi N kd D cA ad post) (free := kA N ad) (v := Int32.ofInt x) X.1 X.2.1 hr (fun t ht hW => ⟨⟨Int32.ofInt x, z, rfl, ⟨x, rfl, h⟩, by show kPic N kd D cA ad z t.heap; rw [ht]; exact hP⟩, hS.F ht⟩) hS.2.2 d hk
theorem k_zret {post : Int → Hp → Prop} {x : Int} (X : kCx p R s m args c cc own nL N kd D cA ad sa) (hr : meth.sig.returnType = some .boolean) (hk : meth.locks = false) (d : decode cc pc = .ok (.ireturn, 1)) (h : bz x ∧ post x z) : kAt p l e R s m args below meth c (MQ below (kQi N kd D cA ad post) args s 0 0 (kA N ad)) nL N kd D cA ad pc lv [kI x] z := by
  intro H locs ls hP hS hl
  exact W.zret (Qc := kQi N kd D cA ad post) (free := kA N ad) (v := Int32.ofInt x) X.1 X.2.1 hr (kI_bool h.1) (fun t ht hW => ⟨⟨Int32.ofInt x, z, rfl, ⟨x, rfl, h.2⟩, by show kPic N kd D cA ad z t.heap; rw [ht]; exact hP⟩, hS.F ht⟩) hS.2.2 d hk
theorem k_lret {post : Int → Hp → Prop} {x : Int} (X : kCx p R s m args c cc own nL N kd D cA ad sa) (hr : meth.sig.returnType = some .long) (hk : meth.locks = false) (d : decode cc pc = .ok (.lreturn, 1)) (h : post x z) : kAt p l e R s m args below meth c (MQ below (kQl N kd D cA ad post) args s 0 0 (kA N ad)) nL N kd D cA ad pc lv [kL x] z := by
  intro H locs ls hP hS hl
  exact W.lret (Qc := kQl N kd D cA ad post) (free := kA N ad) (v := Int64.ofInt x) X.1 X.2.1 hr (fun t ht hW => ⟨⟨Int64.ofInt x, z, rfl, ⟨x, rfl, h⟩, by show kPic N kd D cA ad z t.heap; rw [ht]; exact hP⟩, hS.F ht⟩) hS.2.2 d hk
theorem k_vret {post : Hp → Prop} (X : kCx p R s m args c cc own nL N kd D cA ad sa) (hr : meth.sig.returnType = none) (hk : meth.locks = false) (d : decode cc pc = .ok (.return_, 1)) (h : post z) : kAt p l e R s m args below meth c (MQ below (kQv N kd D cA ad post) args s 0 0 (kA N ad)) nL N kd D cA ad pc lv [] z := by
  intro H locs ls hP hS hl
  exact W.vret (Qc := kQv N kd D cA ad post) (free := kA N ad) X.1 X.2.1 hr (fun t ht hW => ⟨⟨z, rfl, h, by show kPic N kd D cA ad z t.heap; rw [ht]; exact hP⟩, hS.F ht⟩) hS.2.2 d hk
theorem k_met {y : MethodName} {ret : Option FieldType} {dd : Nat} {as : List Value} {Qc : Array Value → State → Outcome → State → Prop} (hy : plainName y.cls = true) (hc : y.cls = own) (hlen : (lg_sl as).length ≤ nL) (hj : kInj N ad) (hkd : kLt N kd)
    (body : ∀ (p : Program) (e : Env) (s : State) (m : MethodId) (below : List Frame) (meth : Method) (c : Code), kCx p (kR dd) s m as.toArray c cc own nL N kd D cA ad sa → meth.sig.returnType = ret → meth.locks = false → kAt p l e (kR dd) s m as.toArray below meth c (MQ below Qc as.toArray s 0 0 (kA N ad)) nL N kd D cA ad 0 (lv_args 0 as) [] z) : kMet l y cc nL ret dd N kd D cA ad sa as z Qc := by
  refine Met.ofW (cc := cc) (maxL := nL) (ret := ret) hy rfl ?_
  intro p e s m args below meth c s₁ B hml hv
  obtain ⟨rfl, hP, hK, hE⟩ := hv
  have hts := atoms_spec (ws := Cond.code y cc nL ret :: GW) B.pre
  have hown : s.vm.findClass own = some m.cls := hc ▸ findClass_of_methodNamed B.named
  have X : kCx p (kR dd) s m as.toArray c cc own nL N kd D cA ad sa := ⟨B.exec, B.bytes, hml, hown, fun w hw => hts w (List.mem_cons_of_mem _ hw), hK, hj, hkd, hE⟩
  have hl := lv_entry as (n := nL) hlen
  rw [lg_entry_eq]
  exact body p e s m below meth c X B.returns B.notSynchronized s.heap [] _ hP va_S.rf hl
end KC
