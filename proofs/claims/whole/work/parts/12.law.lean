/-! THE CLAIM OUT OF ONE WALK OF THE LAW'S BODY. Your part is whole_start (and what it stands on); all else here is the same for every law, but numbers. -/
def R_law : String := "KinProverLaw"
def lw_P (b : Addr) (xs : List Int32) (args : Array Value) (s : State) : Prop := args = #[.ref b] ∧ s.IntsAt b xs ∧ xs.length ≤ 3072 ∧ (Jvm.Cond.and given_1 narrow_1).before args s = true
def lw_Q (_ : Array Value) (s : State) (o : Outcome) (t : State) : Prop := o = .returned (some (.int 1)) ∧ Framed s o t [] 600000 7302250
def lw_Z (below : List Frame) (a : Array Value) (s : State) : State → Prop := fun t => ∃ o, t.status = .running ∧ Ended t below o ∧ lw_Q a s o t
/-- the law's own end, with 1 on the stack, nothing written that was there before, its room as the claim has it -/
theorem lw_ret {p : Program} {l : Launch} {e : Env} {s : State} {m : MethodId} {below : List Frame} {meth : Method} {c : Code} {b : Nat} (hx : p.tables.exec = Jvm.exec) (hb : c.code = code) (hr : meth.sig.returnType = ret) (hlocks : meth.locks = false) {pc : Nat} {H : Heap} {ls : Array Slot} (hdg : decode code pc = .ok (.ireturn, 1)) : W p l e room_1 s m #[Value.ref b] below meth c H [] 600000 7302250 (lw_Z below #[Value.ref b] s) (F0 m pc ls [.int 1]) := by
  intro T hT X
  obtain ⟨fs, hret, hrun, hended, hW, hframe⟩ := X.leave (v := some (.int 1)) (hlocks := hlocks) (fun h => by rw [hr] at h; cases h)
  have hmeth' : T.vm.method? m = some meth := X.method'
  refine ⟨T.setFrames fs, ?_, .returned (some (.int 1)), hrun, hended, rfl, ⟨_, rfl⟩, hW, hframe⟩
  jvm_step X.here [X.here.top, hx, hb, hdg, hmeth', hr, ret, narrow_b1]
  (try refine ⟨rfl, ?_⟩); (try refine ⟨rfl, ?_⟩)
  first | (intro acts; rw [hret _ acts rfl rfl rfl]) | rw [hret _ _ rfl rfl rfl]
  exact Steps.refl _
/-- what holds at the law's entry: the machine, the code, the tables' words (any of lw_tbl by 'hts w (by decide +kernel)'), the script of L ints xs at the cell b, what the Statement gives of the start (any of its parts by flat_of_before) -/
def lw_At (p : Program) (s : State) (m : MethodId) (meth : Method) (c : Code) (b L : Nat) (xs : Nat → Int32) : Prop :=
  p.tables.exec = Jvm.exec ∧ c.code = code ∧ meth.sig.returnType = ret ∧ c.maxLocals = 4 ∧ s.vm.findClass R_law = some m.cls ∧ (∀ w ∈ lw_tbl, w.before #[Value.ref b] s = true) ∧ va_X b L xs s s.heap ∧ b < s.heap.size ∧ meth.locks = false ∧ (Jvm.Cond.and given_1 narrow_1).before #[Value.ref b] s = true
/-! the law: two worlds side by side -/
def lA (s : State) : Nat → Prop := fun q => s.heap.size ≤ q
def lWs (cA : Nat → ClassId) (aC aM : Nat → Nat) (zC zM : Hp) : va_W := kW NC kdC cA aC zC ++ kW NM kdM cA aM zM
def lCx (p : Program) (s : State) (m : MethodId) (meth : Method) (c : Code) (b L : Nat) (xs : Nat → Int32) (D : va_G) (cA aC aM sa : Nat → Nat) : Prop :=
  p.tables.exec = Jvm.exec ∧ c.code = cL_law ∧ c.maxLocals = 4 ∧ s.vm.findClass RL = some m.cls ∧ (∀ w ∈ GW, w.before #[Value.ref b] s = true) ∧ va_K D vwCl (kTys cA) s ∧ va_D (lA s) (lWs cA aC aM zz0 zz0) ∧ kEnv (lA s) sa s s.heap ∧ va_X b L xs s s.heap ∧ b < s.heap.size ∧ meth.sig.returnType = ret ∧ meth.locks = false ∧ L ≤ 3072
section LL
variable {p : Program} {l : Launch} {e : Env} {s : State} {m : MethodId} {below : List Frame} {meth : Method} {c : Code} {b L : Nat} {xs : Nat → Int32} {D : va_G} {cA aC aM sa : Nat → Nat}
variable {pc : Nat} {lv : List (Nat × Value)} {st : List Value} {zC zM : Hp}
def lAt (p : Program) (l : Launch) (e : Env) (s : State) (m : MethodId) (b : Nat) (below : List Frame) (meth : Method) (c : Code) (D : va_G) (cA aC aM : Nat → Nat) (pc : Nat) (lv : List (Nat × Value)) (st : List Value) (zC zM : Hp) : Prop :=
  ∀ (H : Heap) (locs : List Loc) (ls : Array Slot), va_P D vwCl (lWs cA aC aM zC zM) H → va_S (lA s) s.heap H locs → lv_has ls 4 lv → W p l e room_1 s m #[Value.ref b] below meth c H locs 163 10920 (lw_Z below #[Value.ref b] s) (F0 m pc ls st)
theorem lD (X : lCx p s m meth c b L xs D cA aC aM sa) (zC zM : Hp) : va_D (lA s) (lWs cA aC aM zC zM) := by
  have h := X.2.2.2.2.2.2.1
  have ad : ∀ (z1 z2 : Hp) (k : Nat) (q : Nat × va_E), (lWs cA aC aM z1 z2)[k]? = some q → ∃ q', (lWs cA aC aM zz0 zz0)[k]? = some q' ∧ q'.1 = q.1 := fun z1 z2 k q hq => by
    unfold lWs at hq ⊢
    by_cases hk : k < NC
    · rw [List.getElem?_append_left (by simpa [kW] using hk), kW_get hk] at hq
      rw [List.getElem?_append_left (by simpa [kW] using hk), kW_get hk]
      cases hq
      exact ⟨_, rfl, rfl⟩
    · rw [List.getElem?_append_right (by simpa [kW] using hk)] at hq
      rw [List.getElem?_append_right (by simpa [kW] using hk)]
      have e : (kW NC kdC cA aC z1).length = (kW NC kdC cA aC zz0).length := by simp [kW]
      rw [e] at hq
      have hl : k - (kW NC kdC cA aC zz0).length < NM := by have := (List.getElem?_eq_some_iff.mp hq).1; simpa [kW] using this
      rw [kW_get hl] at hq ⊢
      cases hq
      exact ⟨_, rfl, rfl⟩
  refine ⟨fun i j x y hi hj hxy => ?_, fun k q hq => ?_⟩
  · obtain ⟨x', h1, e1⟩ := ad zC zM i x hi
    obtain ⟨y', h2, e2⟩ := ad zC zM j y hj
    exact h.1 i j x' y' h1 h2 (by rw [e1, e2, hxy])
  · obtain ⟨q', h1, e1⟩ := ad zC zM k q hq
    rw [← e1]
    exact h.2 k q' h1
theorem lPC {H : Heap} (h : va_P D vwCl (lWs cA aC aM zC zM) H) : va_P D vwCl (kW NC kdC cA aC zC) H := fun k q hq => h k q (by unfold lWs; rw [List.getElem?_append_left (List.getElem?_eq_some_iff.mp hq).1]; exact hq)
theorem lPM {H : Heap} (h : va_P D vwCl (lWs cA aC aM zC zM) H) : va_P D vwCl (kW NM kdM cA aM zM) H := fun k q hq => h ((kW NC kdC cA aC zC).length + k) q (by unfold lWs; rw [List.getElem?_append_right (by omega), Nat.add_sub_cancel_left]; exact hq)
theorem lPj {H : Heap} (h1 : va_P D vwCl (kW NC kdC cA aC zC) H) (h2 : va_P D vwCl (kW NM kdM cA aM zM) H) : va_P D vwCl (lWs cA aC aM zC zM) H := fun k q hq => by
  unfold lWs at hq
  by_cases hk : k < (kW NC kdC cA aC zC).length
  · rw [List.getElem?_append_left hk] at hq
    exact h1 k q hq
  · rw [List.getElem?_append_right (by omega)] at hq
    exact h2 _ q hq
theorem lDC (X : lCx p s m meth c b L xs D cA aC aM sa) (zC : Hp) : va_D (lA s) (kW NC kdC cA aC zC) := by
  have h := lD X zC zz0
  refine ⟨fun i j x y hi hj e => ?_, fun k q hq => ?_⟩
  · exact h.1 i j x y (by unfold lWs; rw [List.getElem?_append_left (List.getElem?_eq_some_iff.mp hi).1]; exact hi) (by unfold lWs; rw [List.getElem?_append_left (List.getElem?_eq_some_iff.mp hj).1]; exact hj) e
  · exact h.2 k q (by unfold lWs; rw [List.getElem?_append_left (List.getElem?_eq_some_iff.mp hq).1]; exact hq)
theorem lDM (X : lCx p s m meth c b L xs D cA aC aM sa) (zM : Hp) : va_D (lA s) (kW NM kdM cA aM zM) := by
  have h := lD X zz0 zM
  have sh : ∀ (k : Nat) (q : Nat × va_E), (kW NM kdM cA aM zM)[k]? = some q → (lWs cA aC aM zz0 zM)[(kW NC kdC cA aC zz0).length + k]? = some q := fun k q hq => by unfold lWs; rw [List.getElem?_append_right (by omega), Nat.add_sub_cancel_left]; exact hq
  refine ⟨fun i j x y hi hj e => ?_, fun k q hq => h.2 _ q (sh k q hq)⟩
  have := h.1 _ _ x y (sh i x hi) (sh j y hj) e
  omega
theorem lApart (X : lCx p s m meth c b L xs D cA aC aM sa) {i j : Nat} (hi : i < NC) (hj : j < NM) : aC i ≠ aM j := fun e => by
  have h := lD X zz0 zz0
  obtain ⟨v1, h1⟩ : ∃ v, (lWs cA aC aM zz0 zz0)[i]? = some (aC i, v) := ⟨_, by unfold lWs; rw [List.getElem?_append_left (by simpa [kW] using hi)]; exact kW_get hi⟩
  obtain ⟨v2, h2⟩ : ∃ v, (lWs cA aC aM zz0 zz0)[NC + j]? = some (aM j, v) := ⟨_, by unfold lWs; rw [List.getElem?_append_right (by simp [kW]), show NC + j - (kW NC kdC cA aC zz0).length = j by simp [kW]]; exact kW_get hj⟩
  have := h.1 i (NC + j) _ _ h1 h2 e
  omega
theorem l_aload_n (X : lCx p s m meth c b L xs D cA aC aM sa) {k : Fin 4} {x : Nat} (d : decode cL_law pc = .ok (.aload_n k, 1)) (i : Nat) (hk : lv[i]? = some ((k : Nat), .ref x)) (kk : lAt p l e s m b below meth c D cA aC aM (pc + 1) lv (.ref x :: st) zC zM) : lAt p l e s m b below meth c D cA aC aM pc lv st zC zM := fun H locs ls hP hS hl => lv_aload_n X.1 X.2.1 d rfl (lv_at hl i hk) (kk H locs ls hP hS hl)
theorem l_iload_n (X : lCx p s m meth c b L xs D cA aC aM sa) {k : Fin 4} {x : Int} (d : decode cL_law pc = .ok (.iload_n k, 1)) (i : Nat) (hk : lv[i]? = some ((k : Nat), kI x)) (kk : lAt p l e s m b below meth c D cA aC aM (pc + 1) lv (kI x :: st) zC zM) : lAt p l e s m b below meth c D cA aC aM pc lv st zC zM := fun H locs ls hP hS hl => lv_iload_n X.1 X.2.1 d rfl (lv_at hl i hk) (kk H locs ls hP hS hl)
theorem l_iconst (X : lCx p s m meth c b L xs D cA aC aM sa) {n : Int} (d : decode cL_law pc = .ok (.iconst n, 1)) (kk : lAt p l e s m b below meth c D cA aC aM (pc + 1) lv (kI n :: st) zC zM) : lAt p l e s m b below meth c D cA aC aM pc lv st zC zM := fun H locs ls hP hS hl => lv_iconst X.1 X.2.1 d rfl (kk H locs ls hP hS hl)
theorem l_bipush (X : lCx p s m meth c b L xs D cA aC aM sa) {n : Int} (d : decode cL_law pc = .ok (.bipush n, 2)) (hv : (Int8.ofInt n).toInt32 = Int32.ofInt n) (kk : lAt p l e s m b below meth c D cA aC aM (pc + 2) lv (kI n :: st) zC zM) : lAt p l e s m b below meth c D cA aC aM pc lv st zC zM := fun H locs ls hP hS hl => lv_bipush X.1 X.2.1 d hv (kk H locs ls hP hS hl)
theorem l_iadd (X : lCx p s m meth c b L xs D cA aC aM sa) {x y : Int} (d : decode cL_law pc = .ok (.iadd, 1)) (kk : lAt p l e s m b below meth c D cA aC aM (pc + 1) lv (kI (x + y) :: st) zC zM) : lAt p l e s m b below meth c D cA aC aM pc lv (kI y :: kI x :: st) zC zM := fun H locs ls hP hS hl => lv_iadd X.1 X.2.1 d (by rw [kI_add]; exact kk H locs ls hP hS hl)
theorem l_isub (X : lCx p s m meth c b L xs D cA aC aM sa) {x y : Int} (d : decode cL_law pc = .ok (.isub, 1)) (kk : lAt p l e s m b below meth c D cA aC aM (pc + 1) lv (kI (x - y) :: st) zC zM) : lAt p l e s m b below meth c D cA aC aM pc lv (kI y :: kI x :: st) zC zM := fun H locs ls hP hS hl => lv_isub X.1 X.2.1 d (by rw [kI_sub]; exact kk H locs ls hP hS hl)
theorem l_iand (X : lCx p s m meth c b L xs D cA aC aM sa) {x y : Int} (d : decode cL_law pc = .ok (.iand, 1)) (kk : lAt p l e s m b below meth c D cA aC aM (pc + 1) lv (kI (iand x y) :: st) zC zM) : lAt p l e s m b below meth c D cA aC aM pc lv (kI y :: kI x :: st) zC zM := fun H locs ls hP hS hl => lv_iand X.1 X.2.1 d (by rw [← kI_and]; exact kk H locs ls hP hS hl)
theorem lbA (X : lCx p s m meth c b L xs D cA aC aM sa) : ¬ lA s b := fun h => by
  have h1 : s.heap.size ≤ b := h
  have := X.2.2.2.2.2.2.2.2.2.1
  omega
theorem l_len (X : lCx p s m meth c b L xs D cA aC aM sa) (d : decode cL_law pc = .ok (.arraylength, 1)) (kk : lAt p l e s m b below meth c D cA aC aM (pc + 1) lv (kI (L : Nat) :: st) zC zM) : lAt p l e s m b below meth c D cA aC aM pc lv (.ref b :: st) zC zM := fun H locs ls hP hS hl => va_slen (H0 := s.heap) (A := lA s) X.1 X.2.1 X.2.2.2.2.2.2.2.2.1 X.2.2.2.2.2.2.2.2.2.1 (lbA X) hS d (by rw [← Int32.ofInt_eq_ofNat]; exact kk H locs ls hP hS hl)
theorem l_ld (X : lCx p s m meth c b L xs D cA aC aM sa) {i : Int} (hi : inb i L) (d : decode cL_law pc = .ok (.iaload, 1)) (kk : lAt p l e s m b below meth c D cA aC aM (pc + 1) lv (kI (xs i.toNat).toInt :: st) zC zM) : lAt p l e s m b below meth c D cA aC aM pc lv (kI i :: .ref b :: st) zC zM := by
  have hL : L ≤ 3072 := X.2.2.2.2.2.2.2.2.2.2.2.2
  exact fun H locs ls hP hS hl => va_sld (H0 := s.heap) (A := lA s) X.1 X.2.1 X.2.2.2.2.2.2.2.2.1 X.2.2.2.2.2.2.2.2.2.1 (lbA X) hS (kI_in hi (by omega)) d (by
    have q := kk H locs ls hP hS hl
    rw [kI_clamp hi (by omega)]
    unfold kI at q
    rw [Int32.ofInt_toInt] at q
    exact q)
theorem l_goto (X : lCx p s m meth c b L xs D cA aC aM sa) {off : Int} {tgt : Nat} (d : decode cL_law pc = .ok (.goto off, 3)) (ht : (pc : Int) + off = (tgt : Int)) (kk : lAt p l e s m b below meth c D cA aC aM tgt lv st zC zM) : lAt p l e s m b below meth c D cA aC aM pc lv st zC zM := fun H locs ls hP hS hl => lv_goto X.1 X.2.1 d ht (kk H locs ls hP hS hl)
theorem l_iinc (X : lCx p s m meth c b L xs D cA aC aM sa) {k : Nat} {n x : Int} {lv' : List (Nat × Value)} (d : decode cL_law pc = .ok (.iinc k n, 3)) (i : Nat) (hk : lv[i]? = some (k, kI x)) (hn : k < 4) (hl' : (k, kI (x + n)) :: lv.filter (fun q => !(q.1 == k) && !(q.1 + 1 == k && q.2.category == 2)) = lv') (kk : lAt p l e s m b below meth c D cA aC aM (pc + 3) lv' st zC zM) : lAt p l e s m b below meth c D cA aC aM pc lv st zC zM := fun H locs ls hP hS hl => lv_iinc X.1 X.2.1 d hl hk (kI_add x n) hn hl' (fun ls' hl2 => kk H locs ls' hP hS hl2)
theorem l_gt (X : lCx p s m meth c b L xs D cA aC aM sa) {x y : Int} {off : Int} {tgt : Nat} (d : decode cL_law pc = .ok (.if_icmp .gt off, 3)) (ht : (pc : Int) + off = (tgt : Int)) (hx : rg x) (hy : rg y) (kt : y < x → lAt p l e s m b below meth c D cA aC aM tgt lv st zC zM) (kf : ¬ y < x → lAt p l e s m b below meth c D cA aC aM (pc + 3) lv st zC zM) : lAt p l e s m b below meth c D cA aC aM pc lv (kI y :: kI x :: st) zC zM := fun H locs ls hP hS hl => lv_icmp_gt X.1 X.2.1 d ht (fun q => kt ((kI_lt hy hx).mp q) H locs ls hP hS hl) (fun q => kf (fun g => q ((kI_lt hy hx).mpr g)) H locs ls hP hS hl)
theorem l_eq (X : lCx p s m meth c b L xs D cA aC aM sa) {x y : Int} {off : Int} {tgt : Nat} (d : decode cL_law pc = .ok (.if_icmp .eq off, 3)) (ht : (pc : Int) + off = (tgt : Int)) (hxy : x = y) (kk : lAt p l e s m b below meth c D cA aC aM tgt lv st zC zM) : lAt p l e s m b below meth c D cA aC aM pc lv (kI y :: kI x :: st) zC zM := fun H locs ls hP hS hl => lv_icmp_eq X.1 X.2.1 d ht (fun _ => kk H locs ls hP hS hl) (fun q => absurd (by rw [hxy]) q)
theorem l_lcmp (X : lCx p s m meth c b L xs D cA aC aM sa) {x y : Int} (d : decode cL_law pc = .ok (.lcmp, 1)) (hxy : x = y) (kk : lAt p l e s m b below meth c D cA aC aM (pc + 1) lv (kI 0 :: st) zC zM) : lAt p l e s m b below meth c D cA aC aM pc lv (kL y :: kL x :: st) zC zM := fun H locs ls hP hS hl => W.lcmp X.1 X.2.1 d (by rw [(lg_cmp_eq _ _).mpr (by rw [hxy])]; exact kk H locs ls hP hS hl)
theorem l_if0 (X : lCx p s m meth c b L xs D cA aC aM sa) {off : Int} {tgt : Nat} (d : decode cL_law pc = .ok (.ifCond .eq off, 3)) (ht : (pc : Int) + off = (tgt : Int)) (kk : lAt p l e s m b below meth c D cA aC aM tgt lv st zC zM) : lAt p l e s m b below meth c D cA aC aM pc lv (kI 0 :: st) zC zM := fun H locs ls hP hS hl => lv_if_eq X.1 X.2.1 d ht (fun _ => kk H locs ls hP hS hl) (fun q => absurd rfl q)
theorem l_swin (X : lCx p s m meth c b L xs D cA aC aM sa) {dflt lo hi : Int} {offs : Array Int} {len : Nat} {x v : Int} {off : Int} {tgt : Nat} (d : decode cL_law pc = .ok (.tableswitch dflt lo hi offs, len)) (hr : rg x) (hx : x = v) (h1 : ¬ v < lo) (h2 : ¬ hi < v) (ho : offs[(v - lo).toNat]? = some off) (ht : (pc : Int) + off = (tgt : Int)) (kk : lAt p l e s m b below meth c D cA aC aM tgt lv st zC zM) : lAt p l e s m b below meth c D cA aC aM pc lv (kI x :: st) zC zM := fun H locs ls hP hS hl => lv_tableIn X.1 X.2.1 d (by rw [kI_toInt hr, hx]; exact h1) (by rw [kI_toInt hr, hx]; exact h2) (by rw [kI_toInt hr, hx]; exact ho) ht (kk H locs ls hP hS hl)
theorem l_swout (X : lCx p s m meth c b L xs D cA aC aM sa) {dflt lo hi : Int} {offs : Array Int} {len : Nat} {x : Int} {tgt : Nat} (d : decode cL_law pc = .ok (.tableswitch dflt lo hi offs, len)) (hr : rg x) (hx : x < lo ∨ hi < x) (ht : (pc : Int) + dflt = (tgt : Int)) (kk : lAt p l e s m b below meth c D cA aC aM tgt lv st zC zM) : lAt p l e s m b below meth c D cA aC aM pc lv (kI x :: st) zC zM := fun H locs ls hP hS hl => lv_tableOut X.1 X.2.1 d (by rw [kI_toInt hr]; exact hx) ht (kk H locs ls hP hS hl)
section LC
variable {y : MethodName} {bytes : ByteArray} {maxL : Nat} {ret : Option FieldType} {dd idx n : Nat} {As : List Value} {Qc : Array Value → State → Outcome → State → Prop}
theorem l_runC {H : Heap} {locs : List Loc} {ls : Array Slot} (X : lCx p s m meth c b L xs D cA aC aM sa) (Lk : GoodIn GW (wsV RL idx RX9 y (Cond.code y bytes maxL ret :: GW))) (hC : y.cls = RX9) (hy : kyOk y n) (hn : As.length = n) (hR : dd + 1 ≤ 2048 ∧ 8 + (maxL + 11) + 64 * dd ≤ 84000) (hM : kInj NC aC → kMet l y bytes maxL ret dd NC kdC D cA aC sa (.ref (aC 0) :: As) zC Qc) (hst : (st.map fun v => v.category).sum ≤ 8) (d : decode cL_law pc = .ok (.invokevirtual idx, 3)) (hP : va_P D vwCl (lWs cA aC aM zC zM) H) (hS : va_S (lA s) s.heap H locs) (hl : lv_has ls 4 lv) : va_Run p l e room_1 s m #[Value.ref b] below meth c H locs 163 10920 0 0 (F0 m pc ls (As.reverse ++ .ref (aC 0) :: st)) st (Qc (Value.ref (aC 0) :: As).toArray) (kA NC aC) := by
  have X0 := X
  obtain ⟨x1, x2, x3, x4, x5, x6, x7, x8, x9⟩ := X
  have hD := lDC X0 zC
  have hP' := lPC hP
  exact va_runV (As := As) (rest := st) (Ts := GW) ⟨x1, x2, x3, x4, x5⟩ (hM (kW_inj hD)) (cwV n x5 Lk rfl rfl rfl ⟨hC, hy.1, hy.2.1, hy.2.2⟩ hR) ⟨k_frameBlind, va_recv x6 hP' (q0 := 0) (ci := 8) rfl (by rw [kW_get (c := 0) (show 0 < NC by decide), kcell_o (show kdC 0 = (0, 8, 14) from rfl)]), fun U hU hW => ⟨rfl, by rw [hU]; exact hP', va_K.moved hW.alike x6, by rw [hU]; exact kEnv.moved hW ((kEnv.kept x8 hS.2.1).narrow (kW_A hD))⟩⟩ rfl hn hl.1 rfl (lv_room hst) d ⟨Nat.le_of_ble_eq_true rfl, Nat.le_of_ble_eq_true rfl⟩
theorem l_runM {H : Heap} {locs : List Loc} {ls : Array Slot} (X : lCx p s m meth c b L xs D cA aC aM sa) (Lk : GoodIn GW (wsV RL idx RX10 y (Cond.code y bytes maxL ret :: GW))) (hC : y.cls = RX10) (hy : kyOk y n) (hn : As.length = n) (hR : dd + 1 ≤ 2048 ∧ 8 + (maxL + 11) + 64 * dd ≤ 84000) (hM : kInj NM aM → kMet l y bytes maxL ret dd NM kdM D cA aM sa (.ref (aM 0) :: As) zM Qc) (hst : (st.map fun v => v.category).sum ≤ 8) (d : decode cL_law pc = .ok (.invokevirtual idx, 3)) (hP : va_P D vwCl (lWs cA aC aM zC zM) H) (hS : va_S (lA s) s.heap H locs) (hl : lv_has ls 4 lv) : va_Run p l e room_1 s m #[Value.ref b] below meth c H locs 163 10920 0 0 (F0 m pc ls (As.reverse ++ .ref (aM 0) :: st)) st (Qc (Value.ref (aM 0) :: As).toArray) (kA NM aM) := by
  have X0 := X
  obtain ⟨x1, x2, x3, x4, x5, x6, x7, x8, x9⟩ := X
  have hD := lDM X0 zM
  have hP' := lPM hP
  exact va_runV (As := As) (rest := st) (Ts := GW) ⟨x1, x2, x3, x4, x5⟩ (hM (kW_inj hD)) (cwV n x5 Lk rfl rfl rfl ⟨hC, hy.1, hy.2.1, hy.2.2⟩ hR) ⟨k_frameBlind, va_recv x6 hP' (q0 := 0) (ci := 9) rfl (by rw [kW_get (c := 0) (show 0 < NM by decide), kcell_o (show kdM 0 = (0, 9, 31) from rfl)]), fun U hU hW => ⟨rfl, by rw [hU]; exact hP', va_K.moved hW.alike x6, by rw [hU]; exact kEnv.moved hW ((kEnv.kept x8 hS.2.1).narrow (kW_A hD))⟩⟩ rfl hn hl.1 rfl (lv_room hst) d ⟨Nat.le_of_ble_eq_true rfl, Nat.le_of_ble_eq_true rfl⟩
theorem l_keepM (X : lCx p s m meth c b L xs D cA aC aM sa) {H H1 : Heap} (hP : va_P D vwCl (kW NM kdM cA aM zM) H) (hk : ∀ q : Nat, q < H.size → ¬ kA NC aC q → H1[q]? = H[q]?) : va_P D vwCl (kW NM kdM cA aM zM) H1 := hP.kept (fun k q hq => by
  have hl : k < NM := by have := (List.getElem?_eq_some_iff.mp hq).1; simpa [kW] using this
  have hlt := (hP k q hq).lt
  rw [kW_get hl] at hq
  cases hq
  exact hk _ hlt (fun ⟨i, hi, e⟩ => lApart X hi hl e.symm))
theorem l_keepC (X : lCx p s m meth c b L xs D cA aC aM sa) {H H1 : Heap} (hP : va_P D vwCl (kW NC kdC cA aC zC) H) (hk : ∀ q : Nat, q < H.size → ¬ kA NM aM q → H1[q]? = H[q]?) : va_P D vwCl (kW NC kdC cA aC zC) H1 := hP.kept (fun k q hq => by
  have hl : k < NC := by have := (List.getElem?_eq_some_iff.mp hq).1; simpa [kW] using this
  have hlt := (hP k q hq).lt
  rw [kW_get hl] at hq
  cases hq
  exact hk _ hlt (fun ⟨i, hi, e⟩ => lApart X hl hi e))
end LC
theorem l_callCI (X : lCx p s m meth c b L xs D cA aC aM sa) {post : Int → Hp → Prop} {st0 : List Value} {a : Array Value} (hr : ∀ (H : Heap) (locs : List Loc) (ls : Array Slot), va_P D vwCl (lWs cA aC aM zC zM) H → va_S (lA s) s.heap H locs → lv_has ls 4 lv → va_Run p l e room_1 s m #[Value.ref b] below meth c H locs 163 10920 0 0 (F0 m pc ls st0) st (kQi NC kdC D cA aC post a) (kA NC aC)) (kk : ∀ v v2, post v v2 → lAt p l e s m b below meth c D cA aC aM (pc + 3) lv (kI v :: st) v2 zM) : lAt p l e s m b below meth c D cA aC aM pc lv st0 zC zM := by
  intro H locs ls hP hS hl
  have hka := kW_A (lDC X zC)
  refine va_calli (hr H locs ls hP hS hl) hS (fun q _ h => hka q h) hka (fun r u t H1 locs1 ht hvm hp hB hz hk hS1 => ?_)
  obtain ⟨v, rfl, hp⟩ := hp
  rw [ht] at hB
  exact kk v u hp H1 locs1 ls (lPj hB (l_keepM X (lPM hP) hk)) hS1 hl
theorem l_callCL (X : lCx p s m meth c b L xs D cA aC aM sa) {post : Int → Hp → Prop} {st0 : List Value} {a : Array Value} (hr : ∀ (H : Heap) (locs : List Loc) (ls : Array Slot), va_P D vwCl (lWs cA aC aM zC zM) H → va_S (lA s) s.heap H locs → lv_has ls 4 lv → va_Run p l e room_1 s m #[Value.ref b] below meth c H locs 163 10920 0 0 (F0 m pc ls st0) st (kQl NC kdC D cA aC post a) (kA NC aC)) (kk : ∀ v v2, post v v2 → lAt p l e s m b below meth c D cA aC aM (pc + 3) lv (kL v :: st) v2 zM) : lAt p l e s m b below meth c D cA aC aM pc lv st0 zC zM := by
  intro H locs ls hP hS hl
  have hka := kW_A (lDC X zC)
  refine va_calll (hr H locs ls hP hS hl) hS (fun q _ h => hka q h) hka (fun r u t H1 locs1 ht hvm hp hB hz hk hS1 => ?_)
  obtain ⟨v, rfl, hp⟩ := hp
  rw [ht] at hB
  exact kk v u hp H1 locs1 ls (lPj hB (l_keepM X (lPM hP) hk)) hS1 hl
theorem l_callMI (X : lCx p s m meth c b L xs D cA aC aM sa) {post : Int → Hp → Prop} {st0 : List Value} {a : Array Value} (hr : ∀ (H : Heap) (locs : List Loc) (ls : Array Slot), va_P D vwCl (lWs cA aC aM zC zM) H → va_S (lA s) s.heap H locs → lv_has ls 4 lv → va_Run p l e room_1 s m #[Value.ref b] below meth c H locs 163 10920 0 0 (F0 m pc ls st0) st (kQi NM kdM D cA aM post a) (kA NM aM)) (kk : ∀ v v2, post v v2 → lAt p l e s m b below meth c D cA aC aM (pc + 3) lv (kI v :: st) zC v2) : lAt p l e s m b below meth c D cA aC aM pc lv st0 zC zM := by
  intro H locs ls hP hS hl
  have hka := kW_A (lDM X zM)
  refine va_calli (hr H locs ls hP hS hl) hS (fun q _ h => hka q h) hka (fun r u t H1 locs1 ht hvm hp hB hz hk hS1 => ?_)
  obtain ⟨v, rfl, hp⟩ := hp
  rw [ht] at hB
  exact kk v u hp H1 locs1 ls (lPj (l_keepC X (lPC hP) hk) hB) hS1 hl
theorem l_callML (X : lCx p s m meth c b L xs D cA aC aM sa) {post : Int → Hp → Prop} {st0 : List Value} {a : Array Value} (hr : ∀ (H : Heap) (locs : List Loc) (ls : Array Slot), va_P D vwCl (lWs cA aC aM zC zM) H → va_S (lA s) s.heap H locs → lv_has ls 4 lv → va_Run p l e room_1 s m #[Value.ref b] below meth c H locs 163 10920 0 0 (F0 m pc ls st0) st (kQl NM kdM D cA aM post a) (kA NM aM)) (kk : ∀ v v2, post v v2 → lAt p l e s m b below meth c D cA aC aM (pc + 3) lv (kL v :: st) zC v2) : lAt p l e s m b below meth c D cA aC aM pc lv st0 zC zM := by
  intro H locs ls hP hS hl
  have hka := kW_A (lDM X zM)
  refine va_calll (hr H locs ls hP hS hl) hS (fun q _ h => hka q h) hka (fun r u t H1 locs1 ht hvm hp hB hz hk hS1 => ?_)
  obtain ⟨v, rfl, hp⟩ := hp
  rw [ht] at hB
  exact kk v u hp H1 locs1 ls (lPj (l_keepC X (lPC hP) hk) hB) hS1 hl
end LL
theorem lk_L_13 : GoodIn GW (wsV RL 13 RX9 yX9_feed (Cond.code yX9_feed cX9_feed 2 (some .int) :: GW)) := k_lkV GW_good mw278 mw279 mw280 mw1 mw281
theorem yo_X9_feed : kyOk yX9_feed 1 := ⟨by decide +kernel, by decide +kernel, by decide +kernel⟩
theorem lk_L_17 : GoodIn GW (wsV RL 17 RX10 yX10_feed (Cond.code yX10_feed cX10_feed 2 (some .int) :: GW)) := k_lkV GW_good mw984 mw985 mw986 mw10 mw987
theorem yo_X10_feed : kyOk yX10_feed 1 := ⟨by decide +kernel, by decide +kernel, by decide +kernel⟩
theorem lk_L_18 : GoodIn GW (wsV RL 18 RX9 yX9_clear (Cond.code yX9_clear cX9_clear 2 (some .int) :: GW)) := k_lkV GW_good mw286 mw287 mw288 mw1 mw289
theorem yo_X9_clear : kyOk yX9_clear 0 := ⟨by decide +kernel, by decide +kernel, by decide +kernel⟩
theorem lk_L_22 : GoodIn GW (wsV RL 22 RX10 yX10_clear (Cond.code yX10_clear cX10_clear 2 (some .int) :: GW)) := k_lkV GW_good mw991 mw992 mw993 mw10 mw994
theorem yo_X10_clear : kyOk yX10_clear 0 := ⟨by decide +kernel, by decide +kernel, by decide +kernel⟩
theorem lk_L_23 : GoodIn GW (wsV RL 23 RX9 yX9_paper (Cond.code yX9_paper cX9_paper 2 (some .int) :: GW)) := k_lkV GW_good mw294 mw295 mw296 mw1 mw297
theorem yo_X9_paper : kyOk yX9_paper 1 := ⟨by decide +kernel, by decide +kernel, by decide +kernel⟩
theorem lk_L_26 : GoodIn GW (wsV RL 26 RX10 yX10_paper (Cond.code yX10_paper cX10_paper 2 (some .int) :: GW)) := k_lkV GW_good mw995 mw996 mw997 mw10 mw998
theorem yo_X10_paper : kyOk yX10_paper 1 := ⟨by decide +kernel, by decide +kernel, by decide +kernel⟩
theorem lk_L_27 : GoodIn GW (wsV RL 27 RX9 yX9_person (Cond.code yX9_person cX9_person 4 (some .int) :: GW)) := k_lkV GW_good mw302 mw303 mw304 mw1 mw305
theorem yo_X9_person : kyOk yX9_person 1 := ⟨by decide +kernel, by decide +kernel, by decide +kernel⟩
theorem lk_L_30 : GoodIn GW (wsV RL 30 RX10 yX10_person (Cond.code yX10_person cX10_person 6 (some .int) :: GW)) := k_lkV GW_good mw999 mw1000 mw1001 mw10 mw1002
theorem yo_X10_person : kyOk yX10_person 1 := ⟨by decide +kernel, by decide +kernel, by decide +kernel⟩
theorem lk_L_31 : GoodIn GW (wsV RL 31 RX9 yX9_sex (Cond.code yX9_sex cX9_sex 4 (some .int) :: GW)) := k_lkV GW_good mw320 mw321 mw322 mw1 mw323
theorem yo_X9_sex : kyOk yX9_sex 2 := ⟨by decide +kernel, by decide +kernel, by decide +kernel⟩
theorem lk_L_35 : GoodIn GW (wsV RL 35 RX10 yX10_sex (Cond.code yX10_sex cX10_sex 4 (some .int) :: GW)) := k_lkV GW_good mw1006 mw1007 mw1008 mw10 mw1009
theorem yo_X10_sex : kyOk yX10_sex 2 := ⟨by decide +kernel, by decide +kernel, by decide +kernel⟩
theorem lk_L_36 : GoodIn GW (wsV RL 36 RX9 yX9_state (Cond.code yX9_state cX9_state 4 (some .int) :: GW)) := k_lkV GW_good mw328 mw329 mw330 mw1 mw331
theorem yo_X9_state : kyOk yX9_state 1 := ⟨by decide +kernel, by decide +kernel, by decide +kernel⟩
theorem lk_L_39 : GoodIn GW (wsV RL 39 RX10 yX10_state (Cond.code yX10_state cX10_state 2 (some .int) :: GW)) := k_lkV GW_good mw1013 mw1014 mw1015 mw10 mw1016
theorem yo_X10_state : kyOk yX10_state 1 := ⟨by decide +kernel, by decide +kernel, by decide +kernel⟩
theorem lk_L_40 : GoodIn GW (wsV RL 40 RX9 yX9_live (Cond.code yX9_live cX9_live 4 (some .int) :: GW)) := k_lkV GW_good mw365 mw366 mw367 mw1 mw368
theorem yo_X9_live : kyOk yX9_live 2 := ⟨by decide +kernel, by decide +kernel, by decide +kernel⟩
theorem lk_L_43 : GoodIn GW (wsV RL 43 RX10 yX10_live (Cond.code yX10_live cX10_live 4 (some .int) :: GW)) := k_lkV GW_good mw1038 mw1039 mw1040 mw10 mw1041
theorem yo_X10_live : kyOk yX10_live 2 := ⟨by decide +kernel, by decide +kernel, by decide +kernel⟩
theorem lk_L_44 : GoodIn GW (wsV RL 44 RX9 yX9_of (Cond.code yX9_of cX9_of 3 (some .int) :: GW)) := k_lkV GW_good mw373 mw374 mw375 mw1 mw376
theorem yo_X9_of : kyOk yX9_of 2 := ⟨by decide +kernel, by decide +kernel, by decide +kernel⟩
theorem lk_L_47 : GoodIn GW (wsV RL 47 RX10 yX10_of (Cond.code yX10_of cX10_of 3 (some .int) :: GW)) := k_lkV GW_good mw1045 mw1046 mw1047 mw10 mw1048
theorem yo_X10_of : kyOk yX10_of 2 := ⟨by decide +kernel, by decide +kernel, by decide +kernel⟩
theorem lk_L_48 : GoodIn GW (wsV RL 48 RX9 yX9_spell (Cond.code yX9_spell cX9_spell 2 (some .int) :: GW)) := k_lkV GW_good mw377 mw378 mw379 mw1 mw380
theorem yo_X9_spell : kyOk yX9_spell 1 := ⟨by decide +kernel, by decide +kernel, by decide +kernel⟩
theorem lk_L_51 : GoodIn GW (wsV RL 51 RX10 yX10_spell (Cond.code yX10_spell cX10_spell 3 (some .int) :: GW)) := k_lkV GW_good mw1049 mw1050 mw1051 mw10 mw1052
theorem yo_X10_spell : kyOk yX10_spell 1 := ⟨by decide +kernel, by decide +kernel, by decide +kernel⟩
theorem lk_L_52 : GoodIn GW (wsV RL 52 RX9 yX9_name (Cond.code yX9_name cX9_name 4 (some .int) :: GW)) := k_lkV GW_good mw397 mw398 mw399 mw1 mw400
theorem yo_X9_name : kyOk yX9_name 2 := ⟨by decide +kernel, by decide +kernel, by decide +kernel⟩
theorem lk_L_55 : GoodIn GW (wsV RL 55 RX10 yX10_name (Cond.code yX10_name cX10_name 3 (some .int) :: GW)) := k_lkV GW_good mw1060 mw1061 mw1062 mw10 mw1063
theorem yo_X10_name : kyOk yX10_name 2 := ⟨by decide +kernel, by decide +kernel, by decide +kernel⟩
theorem lk_L_56 : GoodIn GW (wsV RL 56 RX9 yX9_find (Cond.code yX9_find cX9_find 3 (some .int) :: GW)) := k_lkV GW_good mw401 mw402 mw403 mw1 mw404
theorem yo_X9_find : kyOk yX9_find 1 := ⟨by decide +kernel, by decide +kernel, by decide +kernel⟩
theorem lk_L_59 : GoodIn GW (wsV RL 59 RX10 yX10_find (Cond.code yX10_find cX10_find 7 (some .int) :: GW)) := k_lkV GW_good mw1070 mw1071 mw1072 mw10 mw1073
theorem yo_X10_find : kyOk yX10_find 1 := ⟨by decide +kernel, by decide +kernel, by decide +kernel⟩
theorem lk_L_60 : GoodIn GW (wsV RL 60 RX9 yX9_byName (Cond.code yX9_byName cX9_byName 3 (some .int) :: GW)) := k_lkV GW_good mw413 mw414 mw415 mw1 mw416
theorem yo_X9_byName : kyOk yX9_byName 1 := ⟨by decide +kernel, by decide +kernel, by decide +kernel⟩
theorem lk_L_63 : GoodIn GW (wsV RL 63 RX10 yX10_byName (Cond.code yX10_byName cX10_byName 5 (some .int) :: GW)) := k_lkV GW_good mw1074 mw1075 mw1076 mw10 mw1077
theorem yo_X10_byName : kyOk yX10_byName 1 := ⟨by decide +kernel, by decide +kernel, by decide +kernel⟩
theorem lk_L_64 : GoodIn GW (wsV RL 64 RX9 yX9_people (Cond.code yX9_people cX9_people 3 (some .int) :: GW)) := k_lkV GW_good mw424 mw425 mw426 mw1 mw427
theorem yo_X9_people : kyOk yX9_people 2 := ⟨by decide +kernel, by decide +kernel, by decide +kernel⟩
theorem lk_L_67 : GoodIn GW (wsV RL 67 RX10 yX10_people (Cond.code yX10_people cX10_people 6 (some .int) :: GW)) := k_lkV GW_good mw1081 mw1082 mw1083 mw10 mw1084
theorem yo_X10_people : kyOk yX10_people 2 := ⟨by decide +kernel, by decide +kernel, by decide +kernel⟩
theorem lk_L_68 : GoodIn GW (wsV RL 68 RX9 yX9_end (Cond.code yX9_end cX9_end 4 (some .int) :: GW)) := k_lkV GW_good mw562 mw563 mw564 mw1 mw565
theorem yo_X9_end : kyOk yX9_end 3 := ⟨by decide +kernel, by decide +kernel, by decide +kernel⟩
theorem lk_L_72 : GoodIn GW (wsV RL 72 RX10 yX10_end (Cond.code yX10_end cX10_end 4 (some .int) :: GW)) := k_lkV GW_good mw1098 mw1099 mw1100 mw10 mw1101
theorem yo_X10_end : kyOk yX10_end 3 := ⟨by decide +kernel, by decide +kernel, by decide +kernel⟩
theorem lk_L_73 : GoodIn GW (wsV RL 73 RX9 yX9_year (Cond.code yX9_year cX9_year 3 (some .int) :: GW)) := k_lkV GW_good mw572 mw573 mw574 mw1 mw575
theorem yo_X9_year : kyOk yX9_year 2 := ⟨by decide +kernel, by decide +kernel, by decide +kernel⟩
theorem lk_L_76 : GoodIn GW (wsV RL 76 RX10 yX10_year (Cond.code yX10_year cX10_year 3 (some .int) :: GW)) := k_lkV GW_good mw1108 mw1109 mw1110 mw10 mw1111
theorem yo_X10_year : kyOk yX10_year 2 := ⟨by decide +kernel, by decide +kernel, by decide +kernel⟩
theorem lk_L_77 : GoodIn GW (wsV RL 77 RX9 yX9_proof (Cond.code yX9_proof cX9_proof 6 (some .int) :: GW)) := k_lkV GW_good mw576 mw577 mw578 mw1 mw579
theorem yo_X9_proof : kyOk yX9_proof 5 := ⟨by decide +kernel, by decide +kernel, by decide +kernel⟩
theorem lk_L_81 : GoodIn GW (wsV RL 81 RX10 yX10_proof (Cond.code yX10_proof cX10_proof 6 (some .int) :: GW)) := k_lkV GW_good mw1112 mw1113 mw1114 mw10 mw1115
theorem yo_X10_proof : kyOk yX10_proof 5 := ⟨by decide +kernel, by decide +kernel, by decide +kernel⟩
theorem lk_L_82 : GoodIn GW (wsV RL 82 RX9 yX9_prove (Cond.code yX9_prove cX9_prove 4 (some .int) :: GW)) := k_lkV GW_good mw593 mw594 mw595 mw1 mw596
theorem yo_X9_prove : kyOk yX9_prove 3 := ⟨by decide +kernel, by decide +kernel, by decide +kernel⟩
theorem lk_L_85 : GoodIn GW (wsV RL 85 RX10 yX10_prove (Cond.code yX10_prove cX10_prove 6 (some .int) :: GW)) := k_lkV GW_good mw1125 mw1126 mw1127 mw10 mw1128
theorem yo_X10_prove : kyOk yX10_prove 3 := ⟨by decide +kernel, by decide +kernel, by decide +kernel⟩
theorem lk_L_86 : GoodIn GW (wsV RL 86 RX9 yX9_clash (Cond.code yX9_clash cX9_clash 2 (some .int) :: GW)) := k_lkV GW_good mw603 mw604 mw605 mw1 mw606
theorem yo_X9_clash : kyOk yX9_clash 1 := ⟨by decide +kernel, by decide +kernel, by decide +kernel⟩
theorem lk_L_89 : GoodIn GW (wsV RL 89 RX10 yX10_clash (Cond.code yX10_clash cX10_clash 2 (some .int) :: GW)) := k_lkV GW_good mw1129 mw1130 mw1131 mw10 mw1132
theorem yo_X10_clash : kyOk yX10_clash 1 := ⟨by decide +kernel, by decide +kernel, by decide +kernel⟩
theorem lk_L_90 : GoodIn GW (wsV RL 90 RX9 yX9_why (Cond.code yX9_why cX9_why 4 (some .int) :: GW)) := k_lkV GW_good mw612 mw613 mw614 mw1 mw615
theorem yo_X9_why : kyOk yX9_why 3 := ⟨by decide +kernel, by decide +kernel, by decide +kernel⟩
theorem lk_L_93 : GoodIn GW (wsV RL 93 RX10 yX10_why (Cond.code yX10_why cX10_why 4 (some .int) :: GW)) := k_lkV GW_good mw1133 mw1134 mw1135 mw10 mw1136
theorem yo_X10_why : kyOk yX10_why 3 := ⟨by decide +kernel, by decide +kernel, by decide +kernel⟩
theorem lk_L_94 : GoodIn GW (wsV RL 94 RX9 yX9_culprit (Cond.code yX9_culprit cX9_culprit 2 (some .int) :: GW)) := k_lkV GW_good mw616 mw617 mw618 mw1 mw619
theorem yo_X9_culprit : kyOk yX9_culprit 1 := ⟨by decide +kernel, by decide +kernel, by decide +kernel⟩
theorem lk_L_97 : GoodIn GW (wsV RL 97 RX10 yX10_culprit (Cond.code yX10_culprit cX10_culprit 5 (some .int) :: GW)) := k_lkV GW_good mw1137 mw1138 mw1139 mw10 mw1140
theorem yo_X10_culprit : kyOk yX10_culprit 1 := ⟨by decide +kernel, by decide +kernel, by decide +kernel⟩
theorem lk_L_98 : GoodIn GW (wsV RL 98 RX9 yX9_same (Cond.code yX9_same cX9_same 3 (some .int) :: GW)) := k_lkV GW_good mw623 mw624 mw625 mw1 mw626
theorem yo_X9_same : kyOk yX9_same 2 := ⟨by decide +kernel, by decide +kernel, by decide +kernel⟩
theorem lk_L_101 : GoodIn GW (wsV RL 101 RX10 yX10_same (Cond.code yX10_same cX10_same 4 (some .int) :: GW)) := k_lkV GW_good mw1141 mw1142 mw1143 mw10 mw1144
theorem yo_X10_same : kyOk yX10_same 2 := ⟨by decide +kernel, by decide +kernel, by decide +kernel⟩
theorem lk_L_102 : GoodIn GW (wsV RL 102 RX9 yX9_narrows (Cond.code yX9_narrows cX9_narrows 4 (some .int) :: GW)) := k_lkV GW_good mw637 mw638 mw639 mw1 mw640
theorem yo_X9_narrows : kyOk yX9_narrows 2 := ⟨by decide +kernel, by decide +kernel, by decide +kernel⟩
theorem lk_L_105 : GoodIn GW (wsV RL 105 RX10 yX10_narrows_ (Cond.code yX10_narrows_ cX10_narrows_ 5 (some .int) :: GW)) := k_lkV GW_good mw1145 mw1146 mw1147 mw10 mw1148
theorem yo_X10_narrows_ : kyOk yX10_narrows_ 2 := ⟨by decide +kernel, by decide +kernel, by decide +kernel⟩
theorem lk_L_106 : GoodIn GW (wsV RL 106 RX9 yX9_rounds (Cond.code yX9_rounds cX9_rounds 1 (some .int) :: GW)) := k_lkV GW_good mw644 mw645 mw646 mw1 mw647
theorem yo_X9_rounds : kyOk yX9_rounds 0 := ⟨by decide +kernel, by decide +kernel, by decide +kernel⟩
theorem lk_L_109 : GoodIn GW (wsV RL 109 RX10 yX10_rounds (Cond.code yX10_rounds cX10_rounds 1 (some .int) :: GW)) := k_lkV GW_good mw1152 mw1153 mw1154 mw10 mw1155
theorem yo_X10_rounds : kyOk yX10_rounds 0 := ⟨by decide +kernel, by decide +kernel, by decide +kernel⟩
theorem lk_L_110 : GoodIn GW (wsV RL 110 RX9 yX9_kin (Cond.code yX9_kin cX9_kin 3 (some .int) :: GW)) := k_lkV GW_good mw648 mw649 mw650 mw1 mw651
theorem yo_X9_kin : kyOk yX9_kin 2 := ⟨by decide +kernel, by decide +kernel, by decide +kernel⟩
theorem lk_L_113 : GoodIn GW (wsV RL 113 RX10 yX10_kin (Cond.code yX10_kin cX10_kin 3 (some .int) :: GW)) := k_lkV GW_good mw1156 mw1157 mw1158 mw10 mw1159
theorem yo_X10_kin : kyOk yX10_kin 2 := ⟨by decide +kernel, by decide +kernel, by decide +kernel⟩
theorem lk_L_114 : GoodIn GW (wsV RL 114 RX9 yX9_common (Cond.code yX9_common cX9_common 3 (some .int) :: GW)) := k_lkV GW_good mw666 mw667 mw668 mw1 mw669
theorem yo_X9_common : kyOk yX9_common 2 := ⟨by decide +kernel, by decide +kernel, by decide +kernel⟩
theorem lk_L_117 : GoodIn GW (wsV RL 117 RX10 yX10_common (Cond.code yX10_common cX10_common 3 (some .int) :: GW)) := k_lkV GW_good mw1169 mw1170 mw1171 mw10 mw1172
theorem yo_X10_common : kyOk yX10_common 2 := ⟨by decide +kernel, by decide +kernel, by decide +kernel⟩
theorem lk_L_118 : GoodIn GW (wsV RL 118 RX9 yX9_half (Cond.code yX9_half cX9_half 3 (some .int) :: GW)) := k_lkV GW_good mw670 mw671 mw672 mw1 mw673
theorem yo_X9_half : kyOk yX9_half 2 := ⟨by decide +kernel, by decide +kernel, by decide +kernel⟩
theorem lk_L_121 : GoodIn GW (wsV RL 121 RX10 yX10_half (Cond.code yX10_half cX10_half 3 (some .int) :: GW)) := k_lkV GW_good mw1173 mw1174 mw1175 mw10 mw1176
theorem yo_X10_half : kyOk yX10_half 2 := ⟨by decide +kernel, by decide +kernel, by decide +kernel⟩
theorem lk_L_122 : GoodIn GW (wsV RL 122 RX9 yX9_title (Cond.code yX9_title cX9_title 4 (some .int) :: GW)) := k_lkV GW_good mw688 mw689 mw690 mw1 mw691
theorem yo_X9_title : kyOk yX9_title 2 := ⟨by decide +kernel, by decide +kernel, by decide +kernel⟩
theorem lk_L_125 : GoodIn GW (wsV RL 125 RX10 yX10_title (Cond.code yX10_title cX10_title 6 (some .int) :: GW)) := k_lkV GW_good mw1183 mw1184 mw1185 mw10 mw1186
theorem yo_X10_title : kyOk yX10_title 2 := ⟨by decide +kernel, by decide +kernel, by decide +kernel⟩
theorem lk_L_126 : GoodIn GW (wsV RL 126 RX9 yX9_path (Cond.code yX9_path cX9_path 5 (some .int) :: GW)) := k_lkV GW_good mw763 mw764 mw765 mw1 mw766
theorem yo_X9_path : kyOk yX9_path 3 := ⟨by decide +kernel, by decide +kernel, by decide +kernel⟩
theorem lk_L_129 : GoodIn GW (wsV RL 129 RX10 yX10_path (Cond.code yX10_path cX10_path 6 (some .int) :: GW)) := k_lkV GW_good mw1201 mw1202 mw1203 mw10 mw1204
theorem yo_X10_path : kyOk yX10_path 3 := ⟨by decide +kernel, by decide +kernel, by decide +kernel⟩
theorem lk_L_130 : GoodIn GW (wsV RL 130 RX9 yX9_relatives (Cond.code yX9_relatives cX9_relatives 4 (some .long) :: GW)) := k_lkV GW_good mw771 mw772 mw773 mw1 mw774
theorem yo_X9_relatives : kyOk yX9_relatives 2 := ⟨by decide +kernel, by decide +kernel, by decide +kernel⟩
theorem lk_L_134 : GoodIn GW (wsV RL 134 RX10 yX10_relatives (Cond.code yX10_relatives cX10_relatives 6 (some .long) :: GW)) := k_lkV GW_good mw1205 mw1206 mw1207 mw10 mw1208
theorem yo_X10_relatives : kyOk yX10_relatives 2 := ⟨by decide +kernel, by decide +kernel, by decide +kernel⟩
theorem lk_L_135 : GoodIn GW (wsV RL 135 RX9 yX9_ancestors (Cond.code yX9_ancestors cX9_ancestors 2 (some .long) :: GW)) := k_lkV GW_good mw781 mw782 mw783 mw1 mw784
theorem yo_X9_ancestors : kyOk yX9_ancestors 1 := ⟨by decide +kernel, by decide +kernel, by decide +kernel⟩
theorem lk_L_139 : GoodIn GW (wsV RL 139 RX10 yX10_ancestors (Cond.code yX10_ancestors cX10_ancestors 2 (some .long) :: GW)) := k_lkV GW_good mw1210 mw1211 mw1212 mw10 mw1213
theorem yo_X10_ancestors : kyOk yX10_ancestors 1 := ⟨by decide +kernel, by decide +kernel, by decide +kernel⟩
theorem lk_L_140 : GoodIn GW (wsV RL 140 RX9 yX9_descendants (Cond.code yX9_descendants cX9_descendants 2 (some .long) :: GW)) := k_lkV GW_good mw785 mw786 mw787 mw1 mw788
theorem yo_X9_descendants : kyOk yX9_descendants 1 := ⟨by decide +kernel, by decide +kernel, by decide +kernel⟩
theorem lk_L_143 : GoodIn GW (wsV RL 143 RX10 yX10_descendants (Cond.code yX10_descendants cX10_descendants 4 (some .long) :: GW)) := k_lkV GW_good mw1214 mw1215 mw1216 mw10 mw1217
theorem yo_X10_descendants : kyOk yX10_descendants 1 := ⟨by decide +kernel, by decide +kernel, by decide +kernel⟩
theorem lk_L_144 : GoodIn GW (wsV RL 144 RX9 yX9_order (Cond.code yX9_order cX9_order 2 (some .int) :: GW)) := k_lkV GW_good mw793 mw794 mw795 mw1 mw796
theorem yo_X9_order : kyOk yX9_order 1 := ⟨by decide +kernel, by decide +kernel, by decide +kernel⟩
theorem lk_L_147 : GoodIn GW (wsV RL 147 RX10 yX10_order (Cond.code yX10_order cX10_order 2 (some .int) :: GW)) := k_lkV GW_good mw1218 mw1219 mw1220 mw10 mw1221
theorem yo_X10_order : kyOk yX10_order 1 := ⟨by decide +kernel, by decide +kernel, by decide +kernel⟩
theorem lk_L_148 : GoodIn GW (wsV RL 148 RX9 yX9_ahead (Cond.code yX9_ahead cX9_ahead 4 (some .int) :: GW)) := k_lkV GW_good mw797 mw798 mw799 mw1 mw800
theorem yo_X9_ahead : kyOk yX9_ahead 2 := ⟨by decide +kernel, by decide +kernel, by decide +kernel⟩
theorem lk_L_151 : GoodIn GW (wsV RL 151 RX10 yX10_ahead (Cond.code yX10_ahead cX10_ahead 5 (some .int) :: GW)) := k_lkV GW_good mw1228 mw1229 mw1230 mw10 mw1231
theorem yo_X10_ahead : kyOk yX10_ahead 2 := ⟨by decide +kernel, by decide +kernel, by decide +kernel⟩
theorem lk_L_152 : GoodIn GW (wsV RL 152 RX9 yX9_told (Cond.code yX9_told cX9_told 2 (some .int) :: GW)) := k_lkV GW_good mw801 mw802 mw803 mw1 mw804
theorem yo_X9_told : kyOk yX9_told 1 := ⟨by decide +kernel, by decide +kernel, by decide +kernel⟩
theorem lk_L_155 : GoodIn GW (wsV RL 155 RX10 yX10_told_ (Cond.code yX10_told_ cX10_told_ 6 (some .int) :: GW)) := k_lkV GW_good mw1232 mw1233 mw1234 mw10 mw1235
theorem yo_X10_told_ : kyOk yX10_told_ 1 := ⟨by decide +kernel, by decide +kernel, by decide +kernel⟩
theorem lk_L_156 : GoodIn GW (wsV RL 156 RX9 yX9_list (Cond.code yX9_list cX9_list 3 (some .int) :: GW)) := k_lkV GW_good mw813 mw814 mw815 mw1 mw816
theorem yo_X9_list : kyOk yX9_list 2 := ⟨by decide +kernel, by decide +kernel, by decide +kernel⟩
theorem lk_L_159 : GoodIn GW (wsV RL 159 RX10 yX10_list (Cond.code yX10_list cX10_list 4 (some .int) :: GW)) := k_lkV GW_good mw1236 mw1237 mw1238 mw10 mw1239
theorem yo_X10_list : kyOk yX10_list 2 := ⟨by decide +kernel, by decide +kernel, by decide +kernel⟩
theorem lk_L_160 : GoodIn GW (wsV RL 160 RX9 yX9_set (Cond.code yX9_set cX9_set 4 (some .int) :: GW)) := k_lkV GW_good mw825 mw826 mw827 mw1 mw828
theorem yo_X9_set : kyOk yX9_set 3 := ⟨by decide +kernel, by decide +kernel, by decide +kernel⟩
theorem lk_L_163 : GoodIn GW (wsV RL 163 RX10 yX10_set (Cond.code yX10_set cX10_set 4 (some .int) :: GW)) := k_lkV GW_good mw1243 mw1244 mw1245 mw10 mw1246
theorem yo_X10_set : kyOk yX10_set 3 := ⟨by decide +kernel, by decide +kernel, by decide +kernel⟩
theorem lk_L_164 : GoodIn GW (wsV RL 164 RX9 yX9_get (Cond.code yX9_get cX9_get 3 (some .long) :: GW)) := k_lkV GW_good mw833 mw834 mw835 mw1 mw836
theorem yo_X9_get : kyOk yX9_get 2 := ⟨by decide +kernel, by decide +kernel, by decide +kernel⟩
theorem lk_L_167 : GoodIn GW (wsV RL 167 RX10 yX10_get (Cond.code yX10_get cX10_get 3 (some .long) :: GW)) := k_lkV GW_good mw1247 mw1248 mw1249 mw10 mw1250
theorem yo_X10_get : kyOk yX10_get 2 := ⟨by decide +kernel, by decide +kernel, by decide +kernel⟩
theorem lk_L_168 : GoodIn GW (wsV RL 168 RX9 yX9_lay (Cond.code yX9_lay cX9_lay 4 (some .int) :: GW)) := k_lkV GW_good mw837 mw838 mw839 mw1 mw840
theorem yo_X9_lay : kyOk yX9_lay 2 := ⟨by decide +kernel, by decide +kernel, by decide +kernel⟩
theorem lk_L_171 : GoodIn GW (wsV RL 171 RX10 yX10_lay (Cond.code yX10_lay cX10_lay 5 (some .int) :: GW)) := k_lkV GW_good mw1251 mw1252 mw1253 mw10 mw1254
theorem yo_X10_lay : kyOk yX10_lay 2 := ⟨by decide +kernel, by decide +kernel, by decide +kernel⟩
theorem lk_L_172 : GoodIn GW (wsV RL 172 RX9 yX9_judge (Cond.code yX9_judge cX9_judge 4 (some .int) :: GW)) := k_lkV GW_good mw841 mw842 mw843 mw1 mw844
theorem yo_X9_judge : kyOk yX9_judge 2 := ⟨by decide +kernel, by decide +kernel, by decide +kernel⟩
theorem lk_L_175 : GoodIn GW (wsV RL 175 RX10 yX10_judge (Cond.code yX10_judge cX10_judge 5 (some .int) :: GW)) := k_lkV GW_good mw1255 mw1256 mw1257 mw10 mw1258
theorem yo_X10_judge : kyOk yX10_judge 2 := ⟨by decide +kernel, by decide +kernel, by decide +kernel⟩
theorem lk_L_176 : GoodIn GW (wsV RL 176 RX9 yX9_image (Cond.code yX9_image cX9_image 1 (some .int) :: GW)) := k_lkV GW_good mw845 mw846 mw847 mw1 mw848
theorem yo_X9_image : kyOk yX9_image 0 := ⟨by decide +kernel, by decide +kernel, by decide +kernel⟩
theorem lk_L_179 : GoodIn GW (wsV RL 179 RX10 yX10_image (Cond.code yX10_image cX10_image 1 (some .int) :: GW)) := k_lkV GW_good mw1259 mw1260 mw1261 mw10 mw1262
theorem yo_X10_image : kyOk yX10_image 0 := ⟨by decide +kernel, by decide +kernel, by decide +kernel⟩
theorem lk_L_180 : GoodIn GW (wsV RL 180 RX9 yX9_undo (Cond.code yX9_undo cX9_undo 1 (some .int) :: GW)) := k_lkV GW_good mw854 mw855 mw856 mw1 mw857
theorem yo_X9_undo : kyOk yX9_undo 0 := ⟨by decide +kernel, by decide +kernel, by decide +kernel⟩
theorem lk_L_183 : GoodIn GW (wsV RL 183 RX10 yX10_undo (Cond.code yX10_undo cX10_undo 1 (some .int) :: GW)) := k_lkV GW_good mw1266 mw1267 mw1268 mw10 mw1269
theorem yo_X10_undo : kyOk yX10_undo 0 := ⟨by decide +kernel, by decide +kernel, by decide +kernel⟩
/-- feed -/
def op0 (Inv : Hp → Hp → Prop) : Prop := ∀ (a1 : Int) (zC zM : Hp), rg a1 → Inv zC zM → cal_X9_feed a1 zC (fun r zC' => cal_X10_feed a1 zM (fun r' zM' => r = r' ∧ Inv zC' zM'))
/-- clear -/
def op1 (Inv : Hp → Hp → Prop) : Prop := ∀ (zC zM : Hp), Inv zC zM → cal_X9_clear  zC (fun r zC' => cal_X10_clear  zM (fun r' zM' => r = r' ∧ Inv zC' zM'))
/-- paper -/
def op2 (Inv : Hp → Hp → Prop) : Prop := ∀ (a1 : Int) (zC zM : Hp), rg a1 → Inv zC zM → cal_X9_paper a1 zC (fun r => cal_X10_paper a1 zM (fun r' => r = r' ∧ Inv zC zM))
/-- person -/
def op3 (Inv : Hp → Hp → Prop) : Prop := ∀ (a1 : Int) (zC zM : Hp), rg a1 → Inv zC zM → cal_X9_person a1 zC (fun r zC' => cal_X10_person a1 zM (fun r' zM' => r = r' ∧ Inv zC' zM'))
/-- sex -/
def op4 (Inv : Hp → Hp → Prop) : Prop := ∀ (a1 a2 : Int) (zC zM : Hp), rg a1 → rg a2 → Inv zC zM → cal_X9_sex a1 a2 zC (fun r zC' => cal_X10_sex a1 a2 zM (fun r' zM' => r = r' ∧ Inv zC' zM'))
/-- state -/
def op5 (Inv : Hp → Hp → Prop) : Prop := ∀ (a1 : Int) (zC zM : Hp), rg a1 → Inv zC zM → cal_X9_state a1 zC (fun r zC' => cal_X10_state a1 zM (fun r' zM' => r = r' ∧ Inv zC' zM'))
/-- live -/
def op6 (Inv : Hp → Hp → Prop) : Prop := ∀ (a1 a2 : Int) (zC zM : Hp), rg a1 → rg a2 → Inv zC zM → cal_X9_live a1 a2 zC (fun r zC' => cal_X10_live a1 a2 zM (fun r' zM' => r = r' ∧ Inv zC' zM'))
/-- of -/
def op7 (Inv : Hp → Hp → Prop) : Prop := ∀ (a1 a2 : Int) (zC zM : Hp), rg a1 → rg a2 → Inv zC zM → cal_X9_of a1 a2 zC (fun r => cal_X10_of a1 a2 zM (fun r' => r = r' ∧ Inv zC zM))
/-- spell -/
def op8 (Inv : Hp → Hp → Prop) : Prop := ∀ (a1 : Int) (zC zM : Hp), rg a1 → Inv zC zM → cal_X9_spell a1 zC (fun r zC' => cal_X10_spell a1 zM (fun r' zM' => r = r' ∧ Inv zC' zM'))
/-- name -/
def op9 (Inv : Hp → Hp → Prop) : Prop := ∀ (a1 a2 : Int) (zC zM : Hp), rg a1 → rg a2 → Inv zC zM → cal_X9_name a1 a2 zC (fun r => cal_X10_name a1 a2 zM (fun r' => r = r' ∧ Inv zC zM))
/-- find -/
def op10 (Inv : Hp → Hp → Prop) : Prop := ∀ (a1 : Int) (zC zM : Hp), rg a1 → Inv zC zM → cal_X9_find a1 zC (fun r zC' => cal_X10_find a1 zM (fun r' zM' => r = r' ∧ Inv zC' zM'))
/-- byName -/
def op11 (Inv : Hp → Hp → Prop) : Prop := ∀ (a1 : Int) (zC zM : Hp), rg a1 → Inv zC zM → cal_X9_byName a1 zC (fun r => cal_X10_byName a1 zM (fun r' => r = r' ∧ Inv zC zM))
/-- people -/
def op12 (Inv : Hp → Hp → Prop) : Prop := ∀ (a1 a2 : Int) (zC zM : Hp), rg a1 → rg a2 → Inv zC zM → cal_X9_people a1 a2 zC (fun r zC' => cal_X10_people a1 a2 zM (fun r' zM' => r = r' ∧ Inv zC' zM'))
/-- end -/
def op13 (Inv : Hp → Hp → Prop) : Prop := ∀ (a1 a2 a3 : Int) (zC zM : Hp), rg a1 → rg a2 → rg a3 → Inv zC zM → cal_X9_end a1 a2 a3 zC (fun r zC' => cal_X10_end a1 a2 a3 zM (fun r' => r = r' ∧ Inv zC' zM))
/-- year -/
def op14 (Inv : Hp → Hp → Prop) : Prop := ∀ (a1 a2 : Int) (zC zM : Hp), rg a1 → rg a2 → Inv zC zM → cal_X9_year a1 a2 zC (fun r zC' => cal_X10_year a1 a2 zM (fun r' => r = r' ∧ Inv zC' zM))
/-- proof -/
def op15 (Inv : Hp → Hp → Prop) : Prop := ∀ (a1 a2 a3 a4 a5 : Int) (zC zM : Hp), rg a1 → rg a2 → rg a3 → rg a4 → rg a5 → Inv zC zM → cal_X9_proof a1 a2 a3 a4 a5 zC (fun r zC' => cal_X10_proof a1 a2 a3 a4 a5 zM (fun r' => r = r' ∧ Inv zC' zM))
/-- prove -/
def op16 (Inv : Hp → Hp → Prop) : Prop := ∀ (a1 a2 a3 : Int) (zC zM : Hp), rg a1 → rg a2 → rg a3 → Inv zC zM → cal_X9_prove a1 a2 a3 zC (fun r zC' => cal_X10_prove a1 a2 a3 zM (fun r' zM' => r = r' ∧ Inv zC' zM'))
/-- clash -/
def op17 (Inv : Hp → Hp → Prop) : Prop := ∀ (a1 : Int) (zC zM : Hp), rg a1 → Inv zC zM → cal_X9_clash a1 zC (fun r zC' => cal_X10_clash a1 zM (fun r' => r = r' ∧ Inv zC' zM))
/-- why -/
def op18 (Inv : Hp → Hp → Prop) : Prop := ∀ (a1 a2 a3 : Int) (zC zM : Hp), rg a1 → rg a2 → rg a3 → Inv zC zM → cal_X9_why a1 a2 a3 zC (fun r zC' => cal_X10_why a1 a2 a3 zM (fun r' => r = r' ∧ Inv zC' zM))
/-- culprit -/
def op19 (Inv : Hp → Hp → Prop) : Prop := ∀ (a1 : Int) (zC zM : Hp), rg a1 → Inv zC zM → cal_X9_culprit a1 zC (fun r zC' => cal_X10_culprit a1 zM (fun r' zM' => r = r' ∧ Inv zC' zM'))
/-- same -/
def op20 (Inv : Hp → Hp → Prop) : Prop := ∀ (a1 a2 : Int) (zC zM : Hp), rg a1 → rg a2 → Inv zC zM → cal_X9_same a1 a2 zC (fun r zC' => cal_X10_same a1 a2 zM (fun r' zM' => r = r' ∧ Inv zC' zM'))
/-- narrows -/
def op21 (Inv : Hp → Hp → Prop) : Prop := ∀ (a1 a2 : Int) (zC zM : Hp), rg a1 → rg a2 → Inv zC zM → cal_X9_narrows a1 a2 zC (fun r zC' => cal_X10_narrows_ a1 a2 zM (fun r' zM' => r = r' ∧ Inv zC' zM'))
/-- rounds -/
def op22 (Inv : Hp → Hp → Prop) : Prop := ∀ (zC zM : Hp), Inv zC zM → cal_X9_rounds  zC (fun r zC' => cal_X10_rounds  zM (fun r' => r = r' ∧ Inv zC' zM))
/-- kin -/
def op23 (Inv : Hp → Hp → Prop) : Prop := ∀ (a1 a2 : Int) (zC zM : Hp), rg a1 → rg a2 → Inv zC zM → cal_X9_kin a1 a2 zC (fun r zC' => cal_X10_kin a1 a2 zM (fun r' zM' => r = r' ∧ Inv zC' zM'))
/-- common -/
def op24 (Inv : Hp → Hp → Prop) : Prop := ∀ (a1 a2 : Int) (zC zM : Hp), rg a1 → rg a2 → Inv zC zM → cal_X9_common a1 a2 zC (fun r zC' => cal_X10_common a1 a2 zM (fun r' zM' => r = r' ∧ Inv zC' zM'))
/-- half -/
def op25 (Inv : Hp → Hp → Prop) : Prop := ∀ (a1 a2 : Int) (zC zM : Hp), rg a1 → rg a2 → Inv zC zM → cal_X9_half a1 a2 zC (fun r zC' => cal_X10_half a1 a2 zM (fun r' zM' => r = r' ∧ Inv zC' zM'))
/-- title -/
def op26 (Inv : Hp → Hp → Prop) : Prop := ∀ (a1 a2 : Int) (zC zM : Hp), rg a1 → rg a2 → Inv zC zM → cal_X9_title a1 a2 zC (fun r zC' => cal_X10_title a1 a2 zM (fun r' zM' => r = r' ∧ Inv zC' zM'))
/-- path -/
def op27 (Inv : Hp → Hp → Prop) : Prop := ∀ (a1 a2 a3 : Int) (zC zM : Hp), rg a1 → rg a2 → rg a3 → Inv zC zM → cal_X9_path a1 a2 a3 zC (fun r zC' => cal_X10_path a1 a2 a3 zM (fun r' zM' => r = r' ∧ Inv zC' zM'))
/-- relatives -/
def op28 (Inv : Hp → Hp → Prop) : Prop := ∀ (a1 a2 : Int) (zC zM : Hp), rg a1 → rg a2 → Inv zC zM → cal_X9_relatives a1 a2 zC (fun r zC' => cal_X10_relatives a1 a2 zM (fun r' => r = r' ∧ Inv zC' zM))
/-- ancestors -/
def op29 (Inv : Hp → Hp → Prop) : Prop := ∀ (a1 : Int) (zC zM : Hp), rg a1 → Inv zC zM → cal_X9_ancestors a1 zC (fun r zC' => cal_X10_ancestors a1 zM (fun r' => r = r' ∧ Inv zC' zM))
/-- descendants -/
def op30 (Inv : Hp → Hp → Prop) : Prop := ∀ (a1 : Int) (zC zM : Hp), rg a1 → Inv zC zM → cal_X9_descendants a1 zC (fun r zC' => cal_X10_descendants a1 zM (fun r' => r = r' ∧ Inv zC' zM))
/-- order -/
def op31 (Inv : Hp → Hp → Prop) : Prop := ∀ (a1 : Int) (zC zM : Hp), rg a1 → Inv zC zM → cal_X9_order a1 zC (fun r zC' => cal_X10_order a1 zM (fun r' zM' => r = r' ∧ Inv zC' zM'))
/-- ahead -/
def op32 (Inv : Hp → Hp → Prop) : Prop := ∀ (a1 a2 : Int) (zC zM : Hp), rg a1 → rg a2 → Inv zC zM → cal_X9_ahead a1 a2 zC (fun r zC' => cal_X10_ahead a1 a2 zM (fun r' => r = r' ∧ Inv zC' zM))
/-- told -/
def op33 (Inv : Hp → Hp → Prop) : Prop := ∀ (a1 : Int) (zC zM : Hp), rg a1 → Inv zC zM → cal_X9_told a1 zC (fun r zC' => cal_X10_told_ a1 zM (fun r' zM' => r = r' ∧ Inv zC' zM'))
/-- list -/
def op34 (Inv : Hp → Hp → Prop) : Prop := ∀ (a1 a2 : Int) (zC zM : Hp), rg a1 → rg a2 → Inv zC zM → cal_X9_list a1 a2 zC (fun r zC' => cal_X10_list a1 a2 zM (fun r' zM' => r = r' ∧ Inv zC' zM'))
/-- set -/
def op35 (Inv : Hp → Hp → Prop) : Prop := ∀ (a1 a2 a3 : Int) (zC zM : Hp), rg a1 → rg a2 → rg a3 → Inv zC zM → cal_X9_set a1 a2 a3 zC (fun r zC' => cal_X10_set a1 a2 a3 zM (fun r' zM' => r = r' ∧ Inv zC' zM'))
/-- get -/
def op36 (Inv : Hp → Hp → Prop) : Prop := ∀ (a1 a2 : Int) (zC zM : Hp), rg a1 → rg a2 → Inv zC zM → cal_X9_get a1 a2 zC (fun r => cal_X10_get a1 a2 zM (fun r' => r = r' ∧ Inv zC zM))
/-- lay -/
def op37 (Inv : Hp → Hp → Prop) : Prop := ∀ (a1 a2 : Int) (zC zM : Hp), rg a1 → rg a2 → Inv zC zM → cal_X9_lay a1 a2 zC (fun r zC' => cal_X10_lay a1 a2 zM (fun r' zM' => r = r' ∧ Inv zC' zM'))
/-- judge -/
def op38 (Inv : Hp → Hp → Prop) : Prop := ∀ (a1 a2 : Int) (zC zM : Hp), rg a1 → rg a2 → Inv zC zM → cal_X9_judge a1 a2 zC (fun r zC' => cal_X10_judge a1 a2 zM (fun r' zM' => r = r' ∧ Inv zC' zM'))
/-- image -/
def op39 (Inv : Hp → Hp → Prop) : Prop := ∀ (zC zM : Hp), Inv zC zM → cal_X9_image  zC (fun r zC' => cal_X10_image  zM (fun r' zM' => r = r' ∧ Inv zC' zM'))
/-- undo -/
def op40 (Inv : Hp → Hp → Prop) : Prop := ∀ (zC zM : Hp), Inv zC zM → cal_X9_undo  zC (fun r zC' => cal_X10_undo  zM (fun r' zM' => r = r' ∧ Inv zC' zM'))
def Ops (Inv : Hp → Hp → Prop) : Prop := op0 Inv ∧ op1 Inv ∧ op2 Inv ∧ op3 Inv ∧ op4 Inv ∧ op5 Inv ∧ op6 Inv ∧ op7 Inv ∧ op8 Inv ∧ op9 Inv ∧ op10 Inv ∧ op11 Inv ∧ op12 Inv ∧ op13 Inv ∧ op14 Inv ∧ op15 Inv ∧ op16 Inv ∧ op17 Inv ∧ op18 Inv ∧ op19 Inv ∧ op20 Inv ∧ op21 Inv ∧ op22 Inv ∧ op23 Inv ∧ op24 Inv ∧ op25 Inv ∧ op26 Inv ∧ op27 Inv ∧ op28 Inv ∧ op29 Inv ∧ op30 Inv ∧ op31 Inv ∧ op32 Inv ∧ op33 Inv ∧ op34 Inv ∧ op35 Inv ∧ op36 Inv ∧ op37 Inv ∧ op38 Inv ∧ op39 Inv ∧ op40 Inv
theorem kI_rg (x : Int32) : rg x.toInt := ⟨by have := x.le_toInt; omega, by have := x.toInt_lt; omega⟩
section LCS
variable {p : Program} {l : Launch} {e : Env} {s : State} {m : MethodId} {below : List Frame} {meth : Method} {c : Code} {b L : Nat} {xs : Nat → Int32} {D : va_G} {cA aC aM sa : Nat → Nat} {zC zM : Hp}
set_option maxRecDepth 100000 in
theorem law_c0 (X : lCx p s m meth c b L xs D cA aC aM sa) {Inv : Hp → Hp → Prop} (ho : op0 Inv) {i : Int} (hi : 0 ≤ i ∧ i + 6 ≤ (L : Int)) (hI : Inv zC zM) (hn : ∀ zC zM, Inv zC zM → lAt p l e s m b below meth c D cA aC aM 1439 [(0, .ref b), (1, .ref (aC 0)), (2, .ref (aM 0)), (3, kI i)] [] zC zM) : lAt p l e s m b below meth c D cA aC aM 212 [(0, .ref b), (1, .ref (aC 0)), (2, .ref (aM 0)), (3, kI i)] [] zC zM := by
  have h := ho (xs (i + 1).toNat).toInt zC zM (kI_rg _) hI
  refine l_aload_n X dL_law_212 1 rfl ?_
  refine l_aload_n X dL_law_213 0 rfl ?_
  refine l_iload_n X dL_law_214 3 rfl ?_
  refine l_iconst X dL_law_215 ?_
  refine l_iadd X dL_law_216 ?_
  refine l_ld X (by omega) dL_law_217 ?_
  refine l_callCI (st := []) X (fun H locs ls hP hS hl => l_runC (As := [kI (xs (i + 1).toNat).toInt]) X lk_L_13 rfl yo_X9_feed rfl ⟨by decide, by decide⟩ (fun hj => ct_X9_feed hj _ _ _ h) (Nat.le_of_ble_eq_true rfl) dL_law_218 hP hS hl) (fun v0 w0 h => ?_)
  refine l_aload_n X dL_law_221 2 rfl ?_
  refine l_aload_n X dL_law_222 0 rfl ?_
  refine l_iload_n X dL_law_223 3 rfl ?_
  refine l_iconst X dL_law_224 ?_
  refine l_iadd X dL_law_225 ?_
  refine l_ld X (by omega) dL_law_226 ?_
  refine l_callMI (st := [kI v0]) X (fun H locs ls hP hS hl => l_runM (As := [kI (xs (i + 1).toNat).toInt]) X lk_L_17 rfl yo_X10_feed rfl ⟨by decide, by decide⟩ (fun hj => ct_X10_feed hj _ _ _ h) (Nat.le_of_ble_eq_true rfl) dL_law_227 hP hS hl) (fun v1 w1 h => ?_)
  refine l_eq (tgt := 1439) X dL_law_230 (by decide) h.1 ?_
  exact hn _ _ h.2
set_option maxRecDepth 100000 in
theorem law_c1 (X : lCx p s m meth c b L xs D cA aC aM sa) {Inv : Hp → Hp → Prop} (ho : op1 Inv) {i : Int} (hi : 0 ≤ i ∧ i + 6 ≤ (L : Int)) (hI : Inv zC zM) (hn : ∀ zC zM, Inv zC zM → lAt p l e s m b below meth c D cA aC aM 1439 [(0, .ref b), (1, .ref (aC 0)), (2, .ref (aM 0)), (3, kI i)] [] zC zM) : lAt p l e s m b below meth c D cA aC aM 235 [(0, .ref b), (1, .ref (aC 0)), (2, .ref (aM 0)), (3, kI i)] [] zC zM := by
  have h := ho  zC zM  hI
  refine l_aload_n X dL_law_235 1 rfl ?_
  refine l_callCI (st := []) X (fun H locs ls hP hS hl => l_runC (As := []) X lk_L_18 rfl yo_X9_clear rfl ⟨by decide, by decide⟩ (fun hj => ct_X9_clear hj  _ _ h) (Nat.le_of_ble_eq_true rfl) dL_law_236 hP hS hl) (fun v0 w0 h => ?_)
  refine l_aload_n X dL_law_239 2 rfl ?_
  refine l_callMI (st := [kI v0]) X (fun H locs ls hP hS hl => l_runM (As := []) X lk_L_22 rfl yo_X10_clear rfl ⟨by decide, by decide⟩ (fun hj => ct_X10_clear hj  _ _ h) (Nat.le_of_ble_eq_true rfl) dL_law_240 hP hS hl) (fun v1 w1 h => ?_)
  refine l_eq (tgt := 1439) X dL_law_243 (by decide) h.1 ?_
  exact hn _ _ h.2
set_option maxRecDepth 100000 in
theorem law_c2 (X : lCx p s m meth c b L xs D cA aC aM sa) {Inv : Hp → Hp → Prop} (ho : op2 Inv) {i : Int} (hi : 0 ≤ i ∧ i + 6 ≤ (L : Int)) (hI : Inv zC zM) (hn : ∀ zC zM, Inv zC zM → lAt p l e s m b below meth c D cA aC aM 1439 [(0, .ref b), (1, .ref (aC 0)), (2, .ref (aM 0)), (3, kI i)] [] zC zM) : lAt p l e s m b below meth c D cA aC aM 248 [(0, .ref b), (1, .ref (aC 0)), (2, .ref (aM 0)), (3, kI i)] [] zC zM := by
  have h := ho (xs (i + 1).toNat).toInt zC zM (kI_rg _) hI
  refine l_aload_n X dL_law_248 1 rfl ?_
  refine l_aload_n X dL_law_249 0 rfl ?_
  refine l_iload_n X dL_law_250 3 rfl ?_
  refine l_iconst X dL_law_251 ?_
  refine l_iadd X dL_law_252 ?_
  refine l_ld X (by omega) dL_law_253 ?_
  refine l_callCI (st := []) X (fun H locs ls hP hS hl => l_runC (As := [kI (xs (i + 1).toNat).toInt]) X lk_L_23 rfl yo_X9_paper rfl ⟨by decide, by decide⟩ (fun hj => ct_X9_paper hj _ _ _ h) (Nat.le_of_ble_eq_true rfl) dL_law_254 hP hS hl) (fun v0 w0 h => ?_)
  obtain ⟨e0, h⟩ := h
  subst e0
  refine l_aload_n X dL_law_257 2 rfl ?_
  refine l_aload_n X dL_law_258 0 rfl ?_
  refine l_iload_n X dL_law_259 3 rfl ?_
  refine l_iconst X dL_law_260 ?_
  refine l_iadd X dL_law_261 ?_
  refine l_ld X (by omega) dL_law_262 ?_
  refine l_callMI (st := [kI v0]) X (fun H locs ls hP hS hl => l_runM (As := [kI (xs (i + 1).toNat).toInt]) X lk_L_26 rfl yo_X10_paper rfl ⟨by decide, by decide⟩ (fun hj => ct_X10_paper hj _ _ _ h) (Nat.le_of_ble_eq_true rfl) dL_law_263 hP hS hl) (fun v1 w1 h => ?_)
  obtain ⟨e1, h⟩ := h
  subst e1
  refine l_eq (tgt := 1439) X dL_law_266 (by decide) h.1 ?_
  exact hn _ _ h.2
set_option maxRecDepth 100000 in
theorem law_c3 (X : lCx p s m meth c b L xs D cA aC aM sa) {Inv : Hp → Hp → Prop} (ho : op3 Inv) {i : Int} (hi : 0 ≤ i ∧ i + 6 ≤ (L : Int)) (hI : Inv zC zM) (hn : ∀ zC zM, Inv zC zM → lAt p l e s m b below meth c D cA aC aM 1439 [(0, .ref b), (1, .ref (aC 0)), (2, .ref (aM 0)), (3, kI i)] [] zC zM) : lAt p l e s m b below meth c D cA aC aM 271 [(0, .ref b), (1, .ref (aC 0)), (2, .ref (aM 0)), (3, kI i)] [] zC zM := by
  have h := ho (xs (i + 1).toNat).toInt zC zM (kI_rg _) hI
  refine l_aload_n X dL_law_271 1 rfl ?_
  refine l_aload_n X dL_law_272 0 rfl ?_
  refine l_iload_n X dL_law_273 3 rfl ?_
  refine l_iconst X dL_law_274 ?_
  refine l_iadd X dL_law_275 ?_
  refine l_ld X (by omega) dL_law_276 ?_
  refine l_callCI (st := []) X (fun H locs ls hP hS hl => l_runC (As := [kI (xs (i + 1).toNat).toInt]) X lk_L_27 rfl yo_X9_person rfl ⟨by decide, by decide⟩ (fun hj => ct_X9_person hj _ _ _ h) (Nat.le_of_ble_eq_true rfl) dL_law_277 hP hS hl) (fun v0 w0 h => ?_)
  refine l_aload_n X dL_law_280 2 rfl ?_
  refine l_aload_n X dL_law_281 0 rfl ?_
  refine l_iload_n X dL_law_282 3 rfl ?_
  refine l_iconst X dL_law_283 ?_
  refine l_iadd X dL_law_284 ?_
  refine l_ld X (by omega) dL_law_285 ?_
  refine l_callMI (st := [kI v0]) X (fun H locs ls hP hS hl => l_runM (As := [kI (xs (i + 1).toNat).toInt]) X lk_L_30 rfl yo_X10_person rfl ⟨by decide, by decide⟩ (fun hj => ct_X10_person hj _ _ _ h) (Nat.le_of_ble_eq_true rfl) dL_law_286 hP hS hl) (fun v1 w1 h => ?_)
  refine l_eq (tgt := 1439) X dL_law_289 (by decide) h.1 ?_
  exact hn _ _ h.2
set_option maxRecDepth 100000 in
theorem law_c4 (X : lCx p s m meth c b L xs D cA aC aM sa) {Inv : Hp → Hp → Prop} (ho : op4 Inv) {i : Int} (hi : 0 ≤ i ∧ i + 6 ≤ (L : Int)) (hI : Inv zC zM) (hn : ∀ zC zM, Inv zC zM → lAt p l e s m b below meth c D cA aC aM 1439 [(0, .ref b), (1, .ref (aC 0)), (2, .ref (aM 0)), (3, kI i)] [] zC zM) : lAt p l e s m b below meth c D cA aC aM 294 [(0, .ref b), (1, .ref (aC 0)), (2, .ref (aM 0)), (3, kI i)] [] zC zM := by
  have h := ho (xs (i + 1).toNat).toInt (xs (i + 2).toNat).toInt zC zM (kI_rg _) (kI_rg _) hI
  refine l_aload_n X dL_law_294 1 rfl ?_
  refine l_aload_n X dL_law_295 0 rfl ?_
  refine l_iload_n X dL_law_296 3 rfl ?_
  refine l_iconst X dL_law_297 ?_
  refine l_iadd X dL_law_298 ?_
  refine l_ld X (by omega) dL_law_299 ?_
  refine l_aload_n X dL_law_300 0 rfl ?_
  refine l_iload_n X dL_law_301 3 rfl ?_
  refine l_iconst X dL_law_302 ?_
  refine l_iadd X dL_law_303 ?_
  refine l_ld X (by omega) dL_law_304 ?_
  refine l_callCI (st := []) X (fun H locs ls hP hS hl => l_runC (As := [kI (xs (i + 1).toNat).toInt, kI (xs (i + 2).toNat).toInt]) X lk_L_31 rfl yo_X9_sex rfl ⟨by decide, by decide⟩ (fun hj => ct_X9_sex hj _ _ _ _ h) (Nat.le_of_ble_eq_true rfl) dL_law_305 hP hS hl) (fun v0 w0 h => ?_)
  refine l_aload_n X dL_law_308 2 rfl ?_
  refine l_aload_n X dL_law_309 0 rfl ?_
  refine l_iload_n X dL_law_310 3 rfl ?_
  refine l_iconst X dL_law_311 ?_
  refine l_iadd X dL_law_312 ?_
  refine l_ld X (by omega) dL_law_313 ?_
  refine l_aload_n X dL_law_314 0 rfl ?_
  refine l_iload_n X dL_law_315 3 rfl ?_
  refine l_iconst X dL_law_316 ?_
  refine l_iadd X dL_law_317 ?_
  refine l_ld X (by omega) dL_law_318 ?_
  refine l_callMI (st := [kI v0]) X (fun H locs ls hP hS hl => l_runM (As := [kI (xs (i + 1).toNat).toInt, kI (xs (i + 2).toNat).toInt]) X lk_L_35 rfl yo_X10_sex rfl ⟨by decide, by decide⟩ (fun hj => ct_X10_sex hj _ _ _ _ h) (Nat.le_of_ble_eq_true rfl) dL_law_319 hP hS hl) (fun v1 w1 h => ?_)
  refine l_eq (tgt := 1439) X dL_law_322 (by decide) h.1 ?_
  exact hn _ _ h.2
set_option maxRecDepth 100000 in
theorem law_c5 (X : lCx p s m meth c b L xs D cA aC aM sa) {Inv : Hp → Hp → Prop} (ho : op5 Inv) {i : Int} (hi : 0 ≤ i ∧ i + 6 ≤ (L : Int)) (hI : Inv zC zM) (hn : ∀ zC zM, Inv zC zM → lAt p l e s m b below meth c D cA aC aM 1439 [(0, .ref b), (1, .ref (aC 0)), (2, .ref (aM 0)), (3, kI i)] [] zC zM) : lAt p l e s m b below meth c D cA aC aM 327 [(0, .ref b), (1, .ref (aC 0)), (2, .ref (aM 0)), (3, kI i)] [] zC zM := by
  have h := ho (xs (i + 1).toNat).toInt zC zM (kI_rg _) hI
  refine l_aload_n X dL_law_327 1 rfl ?_
  refine l_aload_n X dL_law_328 0 rfl ?_
  refine l_iload_n X dL_law_329 3 rfl ?_
  refine l_iconst X dL_law_330 ?_
  refine l_iadd X dL_law_331 ?_
  refine l_ld X (by omega) dL_law_332 ?_
  refine l_callCI (st := []) X (fun H locs ls hP hS hl => l_runC (As := [kI (xs (i + 1).toNat).toInt]) X lk_L_36 rfl yo_X9_state rfl ⟨by decide, by decide⟩ (fun hj => ct_X9_state hj _ _ _ h) (Nat.le_of_ble_eq_true rfl) dL_law_333 hP hS hl) (fun v0 w0 h => ?_)
  refine l_aload_n X dL_law_336 2 rfl ?_
  refine l_aload_n X dL_law_337 0 rfl ?_
  refine l_iload_n X dL_law_338 3 rfl ?_
  refine l_iconst X dL_law_339 ?_
  refine l_iadd X dL_law_340 ?_
  refine l_ld X (by omega) dL_law_341 ?_
  refine l_callMI (st := [kI v0]) X (fun H locs ls hP hS hl => l_runM (As := [kI (xs (i + 1).toNat).toInt]) X lk_L_39 rfl yo_X10_state rfl ⟨by decide, by decide⟩ (fun hj => ct_X10_state hj _ _ _ h) (Nat.le_of_ble_eq_true rfl) dL_law_342 hP hS hl) (fun v1 w1 h => ?_)
  refine l_eq (tgt := 1439) X dL_law_345 (by decide) h.1 ?_
  exact hn _ _ h.2
set_option maxRecDepth 100000 in
theorem law_c6 (X : lCx p s m meth c b L xs D cA aC aM sa) {Inv : Hp → Hp → Prop} (ho : op6 Inv) {i : Int} (hi : 0 ≤ i ∧ i + 6 ≤ (L : Int)) (hI : Inv zC zM) (hn : ∀ zC zM, Inv zC zM → lAt p l e s m b below meth c D cA aC aM 1439 [(0, .ref b), (1, .ref (aC 0)), (2, .ref (aM 0)), (3, kI i)] [] zC zM) : lAt p l e s m b below meth c D cA aC aM 350 [(0, .ref b), (1, .ref (aC 0)), (2, .ref (aM 0)), (3, kI i)] [] zC zM := by
  have h := ho (xs (i + 1).toNat).toInt (xs (i + 2).toNat).toInt zC zM (kI_rg _) (kI_rg _) hI
  refine l_aload_n X dL_law_350 1 rfl ?_
  refine l_aload_n X dL_law_351 0 rfl ?_
  refine l_iload_n X dL_law_352 3 rfl ?_
  refine l_iconst X dL_law_353 ?_
  refine l_iadd X dL_law_354 ?_
  refine l_ld X (by omega) dL_law_355 ?_
  refine l_aload_n X dL_law_356 0 rfl ?_
  refine l_iload_n X dL_law_357 3 rfl ?_
  refine l_iconst X dL_law_358 ?_
  refine l_iadd X dL_law_359 ?_
  refine l_ld X (by omega) dL_law_360 ?_
  refine l_callCI (st := []) X (fun H locs ls hP hS hl => l_runC (As := [kI (xs (i + 1).toNat).toInt, kI (xs (i + 2).toNat).toInt]) X lk_L_40 rfl yo_X9_live rfl ⟨by decide, by decide⟩ (fun hj => ct_X9_live hj _ _ _ _ h) (Nat.le_of_ble_eq_true rfl) dL_law_361 hP hS hl) (fun v0 w0 h => ?_)
  refine l_aload_n X dL_law_364 2 rfl ?_
  refine l_aload_n X dL_law_365 0 rfl ?_
  refine l_iload_n X dL_law_366 3 rfl ?_
  refine l_iconst X dL_law_367 ?_
  refine l_iadd X dL_law_368 ?_
  refine l_ld X (by omega) dL_law_369 ?_
  refine l_aload_n X dL_law_370 0 rfl ?_
  refine l_iload_n X dL_law_371 3 rfl ?_
  refine l_iconst X dL_law_372 ?_
  refine l_iadd X dL_law_373 ?_
  refine l_ld X (by omega) dL_law_374 ?_
  refine l_callMI (st := [kI v0]) X (fun H locs ls hP hS hl => l_runM (As := [kI (xs (i + 1).toNat).toInt, kI (xs (i + 2).toNat).toInt]) X lk_L_43 rfl yo_X10_live rfl ⟨by decide, by decide⟩ (fun hj => ct_X10_live hj _ _ _ _ h) (Nat.le_of_ble_eq_true rfl) dL_law_375 hP hS hl) (fun v1 w1 h => ?_)
  refine l_eq (tgt := 1439) X dL_law_378 (by decide) h.1 ?_
  exact hn _ _ h.2
set_option maxRecDepth 100000 in
theorem law_c7 (X : lCx p s m meth c b L xs D cA aC aM sa) {Inv : Hp → Hp → Prop} (ho : op7 Inv) {i : Int} (hi : 0 ≤ i ∧ i + 6 ≤ (L : Int)) (hI : Inv zC zM) (hn : ∀ zC zM, Inv zC zM → lAt p l e s m b below meth c D cA aC aM 1439 [(0, .ref b), (1, .ref (aC 0)), (2, .ref (aM 0)), (3, kI i)] [] zC zM) : lAt p l e s m b below meth c D cA aC aM 383 [(0, .ref b), (1, .ref (aC 0)), (2, .ref (aM 0)), (3, kI i)] [] zC zM := by
  have h := ho (xs (i + 1).toNat).toInt (xs (i + 2).toNat).toInt zC zM (kI_rg _) (kI_rg _) hI
  refine l_aload_n X dL_law_383 1 rfl ?_
  refine l_aload_n X dL_law_384 0 rfl ?_
  refine l_iload_n X dL_law_385 3 rfl ?_
  refine l_iconst X dL_law_386 ?_
  refine l_iadd X dL_law_387 ?_
  refine l_ld X (by omega) dL_law_388 ?_
  refine l_aload_n X dL_law_389 0 rfl ?_
  refine l_iload_n X dL_law_390 3 rfl ?_
  refine l_iconst X dL_law_391 ?_
  refine l_iadd X dL_law_392 ?_
  refine l_ld X (by omega) dL_law_393 ?_
  refine l_callCI (st := []) X (fun H locs ls hP hS hl => l_runC (As := [kI (xs (i + 1).toNat).toInt, kI (xs (i + 2).toNat).toInt]) X lk_L_44 rfl yo_X9_of rfl ⟨by decide, by decide⟩ (fun hj => ct_X9_of hj _ _ _ _ h) (Nat.le_of_ble_eq_true rfl) dL_law_394 hP hS hl) (fun v0 w0 h => ?_)
  obtain ⟨e0, h⟩ := h
  subst e0
  refine l_aload_n X dL_law_397 2 rfl ?_
  refine l_aload_n X dL_law_398 0 rfl ?_
  refine l_iload_n X dL_law_399 3 rfl ?_
  refine l_iconst X dL_law_400 ?_
  refine l_iadd X dL_law_401 ?_
  refine l_ld X (by omega) dL_law_402 ?_
  refine l_aload_n X dL_law_403 0 rfl ?_
  refine l_iload_n X dL_law_404 3 rfl ?_
  refine l_iconst X dL_law_405 ?_
  refine l_iadd X dL_law_406 ?_
  refine l_ld X (by omega) dL_law_407 ?_
  refine l_callMI (st := [kI v0]) X (fun H locs ls hP hS hl => l_runM (As := [kI (xs (i + 1).toNat).toInt, kI (xs (i + 2).toNat).toInt]) X lk_L_47 rfl yo_X10_of rfl ⟨by decide, by decide⟩ (fun hj => ct_X10_of hj _ _ _ _ h) (Nat.le_of_ble_eq_true rfl) dL_law_408 hP hS hl) (fun v1 w1 h => ?_)
  obtain ⟨e1, h⟩ := h
  subst e1
  refine l_eq (tgt := 1439) X dL_law_411 (by decide) h.1 ?_
  exact hn _ _ h.2
set_option maxRecDepth 100000 in
theorem law_c8 (X : lCx p s m meth c b L xs D cA aC aM sa) {Inv : Hp → Hp → Prop} (ho : op8 Inv) {i : Int} (hi : 0 ≤ i ∧ i + 6 ≤ (L : Int)) (hI : Inv zC zM) (hn : ∀ zC zM, Inv zC zM → lAt p l e s m b below meth c D cA aC aM 1439 [(0, .ref b), (1, .ref (aC 0)), (2, .ref (aM 0)), (3, kI i)] [] zC zM) : lAt p l e s m b below meth c D cA aC aM 416 [(0, .ref b), (1, .ref (aC 0)), (2, .ref (aM 0)), (3, kI i)] [] zC zM := by
  have h := ho (xs (i + 1).toNat).toInt zC zM (kI_rg _) hI
  refine l_aload_n X dL_law_416 1 rfl ?_
  refine l_aload_n X dL_law_417 0 rfl ?_
  refine l_iload_n X dL_law_418 3 rfl ?_
  refine l_iconst X dL_law_419 ?_
  refine l_iadd X dL_law_420 ?_
  refine l_ld X (by omega) dL_law_421 ?_
  refine l_callCI (st := []) X (fun H locs ls hP hS hl => l_runC (As := [kI (xs (i + 1).toNat).toInt]) X lk_L_48 rfl yo_X9_spell rfl ⟨by decide, by decide⟩ (fun hj => ct_X9_spell hj _ _ _ h) (Nat.le_of_ble_eq_true rfl) dL_law_422 hP hS hl) (fun v0 w0 h => ?_)
  refine l_aload_n X dL_law_425 2 rfl ?_
  refine l_aload_n X dL_law_426 0 rfl ?_
  refine l_iload_n X dL_law_427 3 rfl ?_
  refine l_iconst X dL_law_428 ?_
  refine l_iadd X dL_law_429 ?_
  refine l_ld X (by omega) dL_law_430 ?_
  refine l_callMI (st := [kI v0]) X (fun H locs ls hP hS hl => l_runM (As := [kI (xs (i + 1).toNat).toInt]) X lk_L_51 rfl yo_X10_spell rfl ⟨by decide, by decide⟩ (fun hj => ct_X10_spell hj _ _ _ h) (Nat.le_of_ble_eq_true rfl) dL_law_431 hP hS hl) (fun v1 w1 h => ?_)
  refine l_eq (tgt := 1439) X dL_law_434 (by decide) h.1 ?_
  exact hn _ _ h.2
set_option maxRecDepth 100000 in
theorem law_c9 (X : lCx p s m meth c b L xs D cA aC aM sa) {Inv : Hp → Hp → Prop} (ho : op9 Inv) {i : Int} (hi : 0 ≤ i ∧ i + 6 ≤ (L : Int)) (hI : Inv zC zM) (hn : ∀ zC zM, Inv zC zM → lAt p l e s m b below meth c D cA aC aM 1439 [(0, .ref b), (1, .ref (aC 0)), (2, .ref (aM 0)), (3, kI i)] [] zC zM) : lAt p l e s m b below meth c D cA aC aM 439 [(0, .ref b), (1, .ref (aC 0)), (2, .ref (aM 0)), (3, kI i)] [] zC zM := by
  have h := ho (xs (i + 1).toNat).toInt (xs (i + 2).toNat).toInt zC zM (kI_rg _) (kI_rg _) hI
  refine l_aload_n X dL_law_439 1 rfl ?_
  refine l_aload_n X dL_law_440 0 rfl ?_
  refine l_iload_n X dL_law_441 3 rfl ?_
  refine l_iconst X dL_law_442 ?_
  refine l_iadd X dL_law_443 ?_
  refine l_ld X (by omega) dL_law_444 ?_
  refine l_aload_n X dL_law_445 0 rfl ?_
  refine l_iload_n X dL_law_446 3 rfl ?_
  refine l_iconst X dL_law_447 ?_
  refine l_iadd X dL_law_448 ?_
  refine l_ld X (by omega) dL_law_449 ?_
  refine l_callCI (st := []) X (fun H locs ls hP hS hl => l_runC (As := [kI (xs (i + 1).toNat).toInt, kI (xs (i + 2).toNat).toInt]) X lk_L_52 rfl yo_X9_name rfl ⟨by decide, by decide⟩ (fun hj => ct_X9_name hj _ _ _ _ h) (Nat.le_of_ble_eq_true rfl) dL_law_450 hP hS hl) (fun v0 w0 h => ?_)
  obtain ⟨e0, h⟩ := h
  subst e0
  refine l_aload_n X dL_law_453 2 rfl ?_
  refine l_aload_n X dL_law_454 0 rfl ?_
  refine l_iload_n X dL_law_455 3 rfl ?_
  refine l_iconst X dL_law_456 ?_
  refine l_iadd X dL_law_457 ?_
  refine l_ld X (by omega) dL_law_458 ?_
  refine l_aload_n X dL_law_459 0 rfl ?_
  refine l_iload_n X dL_law_460 3 rfl ?_
  refine l_iconst X dL_law_461 ?_
  refine l_iadd X dL_law_462 ?_
  refine l_ld X (by omega) dL_law_463 ?_
  refine l_callMI (st := [kI v0]) X (fun H locs ls hP hS hl => l_runM (As := [kI (xs (i + 1).toNat).toInt, kI (xs (i + 2).toNat).toInt]) X lk_L_55 rfl yo_X10_name rfl ⟨by decide, by decide⟩ (fun hj => ct_X10_name hj _ _ _ _ h) (Nat.le_of_ble_eq_true rfl) dL_law_464 hP hS hl) (fun v1 w1 h => ?_)
  obtain ⟨e1, h⟩ := h
  subst e1
  refine l_eq (tgt := 1439) X dL_law_467 (by decide) h.1 ?_
  exact hn _ _ h.2
set_option maxRecDepth 100000 in
theorem law_c10 (X : lCx p s m meth c b L xs D cA aC aM sa) {Inv : Hp → Hp → Prop} (ho : op10 Inv) {i : Int} (hi : 0 ≤ i ∧ i + 6 ≤ (L : Int)) (hI : Inv zC zM) (hn : ∀ zC zM, Inv zC zM → lAt p l e s m b below meth c D cA aC aM 1439 [(0, .ref b), (1, .ref (aC 0)), (2, .ref (aM 0)), (3, kI i)] [] zC zM) : lAt p l e s m b below meth c D cA aC aM 472 [(0, .ref b), (1, .ref (aC 0)), (2, .ref (aM 0)), (3, kI i)] [] zC zM := by
  have h := ho (xs (i + 1).toNat).toInt zC zM (kI_rg _) hI
  refine l_aload_n X dL_law_472 1 rfl ?_
  refine l_aload_n X dL_law_473 0 rfl ?_
  refine l_iload_n X dL_law_474 3 rfl ?_
  refine l_iconst X dL_law_475 ?_
  refine l_iadd X dL_law_476 ?_
  refine l_ld X (by omega) dL_law_477 ?_
  refine l_callCI (st := []) X (fun H locs ls hP hS hl => l_runC (As := [kI (xs (i + 1).toNat).toInt]) X lk_L_56 rfl yo_X9_find rfl ⟨by decide, by decide⟩ (fun hj => ct_X9_find hj _ _ _ h) (Nat.le_of_ble_eq_true rfl) dL_law_478 hP hS hl) (fun v0 w0 h => ?_)
  refine l_aload_n X dL_law_481 2 rfl ?_
  refine l_aload_n X dL_law_482 0 rfl ?_
  refine l_iload_n X dL_law_483 3 rfl ?_
  refine l_iconst X dL_law_484 ?_
  refine l_iadd X dL_law_485 ?_
  refine l_ld X (by omega) dL_law_486 ?_
  refine l_callMI (st := [kI v0]) X (fun H locs ls hP hS hl => l_runM (As := [kI (xs (i + 1).toNat).toInt]) X lk_L_59 rfl yo_X10_find rfl ⟨by decide, by decide⟩ (fun hj => ct_X10_find hj _ _ _ h) (Nat.le_of_ble_eq_true rfl) dL_law_487 hP hS hl) (fun v1 w1 h => ?_)
  refine l_eq (tgt := 1439) X dL_law_490 (by decide) h.1 ?_
  exact hn _ _ h.2
set_option maxRecDepth 100000 in
theorem law_c11 (X : lCx p s m meth c b L xs D cA aC aM sa) {Inv : Hp → Hp → Prop} (ho : op11 Inv) {i : Int} (hi : 0 ≤ i ∧ i + 6 ≤ (L : Int)) (hI : Inv zC zM) (hn : ∀ zC zM, Inv zC zM → lAt p l e s m b below meth c D cA aC aM 1439 [(0, .ref b), (1, .ref (aC 0)), (2, .ref (aM 0)), (3, kI i)] [] zC zM) : lAt p l e s m b below meth c D cA aC aM 495 [(0, .ref b), (1, .ref (aC 0)), (2, .ref (aM 0)), (3, kI i)] [] zC zM := by
  have h := ho (xs (i + 1).toNat).toInt zC zM (kI_rg _) hI
  refine l_aload_n X dL_law_495 1 rfl ?_
  refine l_aload_n X dL_law_496 0 rfl ?_
  refine l_iload_n X dL_law_497 3 rfl ?_
  refine l_iconst X dL_law_498 ?_
  refine l_iadd X dL_law_499 ?_
  refine l_ld X (by omega) dL_law_500 ?_
  refine l_callCI (st := []) X (fun H locs ls hP hS hl => l_runC (As := [kI (xs (i + 1).toNat).toInt]) X lk_L_60 rfl yo_X9_byName rfl ⟨by decide, by decide⟩ (fun hj => ct_X9_byName hj _ _ _ h) (Nat.le_of_ble_eq_true rfl) dL_law_501 hP hS hl) (fun v0 w0 h => ?_)
  obtain ⟨e0, h⟩ := h
  subst e0
  refine l_aload_n X dL_law_504 2 rfl ?_
  refine l_aload_n X dL_law_505 0 rfl ?_
  refine l_iload_n X dL_law_506 3 rfl ?_
  refine l_iconst X dL_law_507 ?_
  refine l_iadd X dL_law_508 ?_
  refine l_ld X (by omega) dL_law_509 ?_
  refine l_callMI (st := [kI v0]) X (fun H locs ls hP hS hl => l_runM (As := [kI (xs (i + 1).toNat).toInt]) X lk_L_63 rfl yo_X10_byName rfl ⟨by decide, by decide⟩ (fun hj => ct_X10_byName hj _ _ _ h) (Nat.le_of_ble_eq_true rfl) dL_law_510 hP hS hl) (fun v1 w1 h => ?_)
  obtain ⟨e1, h⟩ := h
  subst e1
  refine l_eq (tgt := 1439) X dL_law_513 (by decide) h.1 ?_
  exact hn _ _ h.2
set_option maxRecDepth 100000 in
theorem law_c12 (X : lCx p s m meth c b L xs D cA aC aM sa) {Inv : Hp → Hp → Prop} (ho : op12 Inv) {i : Int} (hi : 0 ≤ i ∧ i + 6 ≤ (L : Int)) (hI : Inv zC zM) (hn : ∀ zC zM, Inv zC zM → lAt p l e s m b below meth c D cA aC aM 1439 [(0, .ref b), (1, .ref (aC 0)), (2, .ref (aM 0)), (3, kI i)] [] zC zM) : lAt p l e s m b below meth c D cA aC aM 518 [(0, .ref b), (1, .ref (aC 0)), (2, .ref (aM 0)), (3, kI i)] [] zC zM := by
  have h := ho (xs (i + 1).toNat).toInt (xs (i + 2).toNat).toInt zC zM (kI_rg _) (kI_rg _) hI
  refine l_aload_n X dL_law_518 1 rfl ?_
  refine l_aload_n X dL_law_519 0 rfl ?_
  refine l_iload_n X dL_law_520 3 rfl ?_
  refine l_iconst X dL_law_521 ?_
  refine l_iadd X dL_law_522 ?_
  refine l_ld X (by omega) dL_law_523 ?_
  refine l_aload_n X dL_law_524 0 rfl ?_
  refine l_iload_n X dL_law_525 3 rfl ?_
  refine l_iconst X dL_law_526 ?_
  refine l_iadd X dL_law_527 ?_
  refine l_ld X (by omega) dL_law_528 ?_
  refine l_callCI (st := []) X (fun H locs ls hP hS hl => l_runC (As := [kI (xs (i + 1).toNat).toInt, kI (xs (i + 2).toNat).toInt]) X lk_L_64 rfl yo_X9_people rfl ⟨by decide, by decide⟩ (fun hj => ct_X9_people hj _ _ _ _ h) (Nat.le_of_ble_eq_true rfl) dL_law_529 hP hS hl) (fun v0 w0 h => ?_)
  refine l_aload_n X dL_law_532 2 rfl ?_
  refine l_aload_n X dL_law_533 0 rfl ?_
  refine l_iload_n X dL_law_534 3 rfl ?_
  refine l_iconst X dL_law_535 ?_
  refine l_iadd X dL_law_536 ?_
  refine l_ld X (by omega) dL_law_537 ?_
  refine l_aload_n X dL_law_538 0 rfl ?_
  refine l_iload_n X dL_law_539 3 rfl ?_
  refine l_iconst X dL_law_540 ?_
  refine l_iadd X dL_law_541 ?_
  refine l_ld X (by omega) dL_law_542 ?_
  refine l_callMI (st := [kI v0]) X (fun H locs ls hP hS hl => l_runM (As := [kI (xs (i + 1).toNat).toInt, kI (xs (i + 2).toNat).toInt]) X lk_L_67 rfl yo_X10_people rfl ⟨by decide, by decide⟩ (fun hj => ct_X10_people hj _ _ _ _ h) (Nat.le_of_ble_eq_true rfl) dL_law_543 hP hS hl) (fun v1 w1 h => ?_)
  refine l_eq (tgt := 1439) X dL_law_546 (by decide) h.1 ?_
  exact hn _ _ h.2
set_option maxRecDepth 100000 in
theorem law_c13 (X : lCx p s m meth c b L xs D cA aC aM sa) {Inv : Hp → Hp → Prop} (ho : op13 Inv) {i : Int} (hi : 0 ≤ i ∧ i + 6 ≤ (L : Int)) (hI : Inv zC zM) (hn : ∀ zC zM, Inv zC zM → lAt p l e s m b below meth c D cA aC aM 1439 [(0, .ref b), (1, .ref (aC 0)), (2, .ref (aM 0)), (3, kI i)] [] zC zM) : lAt p l e s m b below meth c D cA aC aM 551 [(0, .ref b), (1, .ref (aC 0)), (2, .ref (aM 0)), (3, kI i)] [] zC zM := by
  have h := ho (xs (i + 1).toNat).toInt (xs (i + 2).toNat).toInt (xs (i + 3).toNat).toInt zC zM (kI_rg _) (kI_rg _) (kI_rg _) hI
  refine l_aload_n X dL_law_551 1 rfl ?_
  refine l_aload_n X dL_law_552 0 rfl ?_
  refine l_iload_n X dL_law_553 3 rfl ?_
  refine l_iconst X dL_law_554 ?_
  refine l_iadd X dL_law_555 ?_
  refine l_ld X (by omega) dL_law_556 ?_
  refine l_aload_n X dL_law_557 0 rfl ?_
  refine l_iload_n X dL_law_558 3 rfl ?_
  refine l_iconst X dL_law_559 ?_
  refine l_iadd X dL_law_560 ?_
  refine l_ld X (by omega) dL_law_561 ?_
  refine l_aload_n X dL_law_562 0 rfl ?_
  refine l_iload_n X dL_law_563 3 rfl ?_
  refine l_iconst X dL_law_564 ?_
  refine l_iadd X dL_law_565 ?_
  refine l_ld X (by omega) dL_law_566 ?_
  refine l_callCI (st := []) X (fun H locs ls hP hS hl => l_runC (As := [kI (xs (i + 1).toNat).toInt, kI (xs (i + 2).toNat).toInt, kI (xs (i + 3).toNat).toInt]) X lk_L_68 rfl yo_X9_end rfl ⟨by decide, by decide⟩ (fun hj => ct_X9_end hj _ _ _ _ _ h) (Nat.le_of_ble_eq_true rfl) dL_law_567 hP hS hl) (fun v0 w0 h => ?_)
  refine l_aload_n X dL_law_570 2 rfl ?_
  refine l_aload_n X dL_law_571 0 rfl ?_
  refine l_iload_n X dL_law_572 3 rfl ?_
  refine l_iconst X dL_law_573 ?_
  refine l_iadd X dL_law_574 ?_
  refine l_ld X (by omega) dL_law_575 ?_
  refine l_aload_n X dL_law_576 0 rfl ?_
  refine l_iload_n X dL_law_577 3 rfl ?_
  refine l_iconst X dL_law_578 ?_
  refine l_iadd X dL_law_579 ?_
  refine l_ld X (by omega) dL_law_580 ?_
  refine l_aload_n X dL_law_581 0 rfl ?_
  refine l_iload_n X dL_law_582 3 rfl ?_
  refine l_iconst X dL_law_583 ?_
  refine l_iadd X dL_law_584 ?_
  refine l_ld X (by omega) dL_law_585 ?_
  refine l_callMI (st := [kI v0]) X (fun H locs ls hP hS hl => l_runM (As := [kI (xs (i + 1).toNat).toInt, kI (xs (i + 2).toNat).toInt, kI (xs (i + 3).toNat).toInt]) X lk_L_72 rfl yo_X10_end rfl ⟨by decide, by decide⟩ (fun hj => ct_X10_end hj _ _ _ _ _ h) (Nat.le_of_ble_eq_true rfl) dL_law_586 hP hS hl) (fun v1 w1 h => ?_)
  obtain ⟨e1, h⟩ := h
  subst e1
  refine l_eq (tgt := 1439) X dL_law_589 (by decide) h.1 ?_
  exact hn _ _ h.2
set_option maxRecDepth 100000 in
theorem law_c14 (X : lCx p s m meth c b L xs D cA aC aM sa) {Inv : Hp → Hp → Prop} (ho : op14 Inv) {i : Int} (hi : 0 ≤ i ∧ i + 6 ≤ (L : Int)) (hI : Inv zC zM) (hn : ∀ zC zM, Inv zC zM → lAt p l e s m b below meth c D cA aC aM 1439 [(0, .ref b), (1, .ref (aC 0)), (2, .ref (aM 0)), (3, kI i)] [] zC zM) : lAt p l e s m b below meth c D cA aC aM 594 [(0, .ref b), (1, .ref (aC 0)), (2, .ref (aM 0)), (3, kI i)] [] zC zM := by
  have h := ho (xs (i + 1).toNat).toInt (xs (i + 2).toNat).toInt zC zM (kI_rg _) (kI_rg _) hI
  refine l_aload_n X dL_law_594 1 rfl ?_
  refine l_aload_n X dL_law_595 0 rfl ?_
  refine l_iload_n X dL_law_596 3 rfl ?_
  refine l_iconst X dL_law_597 ?_
  refine l_iadd X dL_law_598 ?_
  refine l_ld X (by omega) dL_law_599 ?_
  refine l_aload_n X dL_law_600 0 rfl ?_
  refine l_iload_n X dL_law_601 3 rfl ?_
  refine l_iconst X dL_law_602 ?_
  refine l_iadd X dL_law_603 ?_
  refine l_ld X (by omega) dL_law_604 ?_
  refine l_callCI (st := []) X (fun H locs ls hP hS hl => l_runC (As := [kI (xs (i + 1).toNat).toInt, kI (xs (i + 2).toNat).toInt]) X lk_L_73 rfl yo_X9_year rfl ⟨by decide, by decide⟩ (fun hj => ct_X9_year hj _ _ _ _ h) (Nat.le_of_ble_eq_true rfl) dL_law_605 hP hS hl) (fun v0 w0 h => ?_)
  refine l_aload_n X dL_law_608 2 rfl ?_
  refine l_aload_n X dL_law_609 0 rfl ?_
  refine l_iload_n X dL_law_610 3 rfl ?_
  refine l_iconst X dL_law_611 ?_
  refine l_iadd X dL_law_612 ?_
  refine l_ld X (by omega) dL_law_613 ?_
  refine l_aload_n X dL_law_614 0 rfl ?_
  refine l_iload_n X dL_law_615 3 rfl ?_
  refine l_iconst X dL_law_616 ?_
  refine l_iadd X dL_law_617 ?_
  refine l_ld X (by omega) dL_law_618 ?_
  refine l_callMI (st := [kI v0]) X (fun H locs ls hP hS hl => l_runM (As := [kI (xs (i + 1).toNat).toInt, kI (xs (i + 2).toNat).toInt]) X lk_L_76 rfl yo_X10_year rfl ⟨by decide, by decide⟩ (fun hj => ct_X10_year hj _ _ _ _ h) (Nat.le_of_ble_eq_true rfl) dL_law_619 hP hS hl) (fun v1 w1 h => ?_)
  obtain ⟨e1, h⟩ := h
  subst e1
  refine l_eq (tgt := 1439) X dL_law_622 (by decide) h.1 ?_
  exact hn _ _ h.2
set_option maxRecDepth 100000 in
theorem law_c15 (X : lCx p s m meth c b L xs D cA aC aM sa) {Inv : Hp → Hp → Prop} (ho : op15 Inv) {i : Int} (hi : 0 ≤ i ∧ i + 6 ≤ (L : Int)) (hI : Inv zC zM) (hn : ∀ zC zM, Inv zC zM → lAt p l e s m b below meth c D cA aC aM 1439 [(0, .ref b), (1, .ref (aC 0)), (2, .ref (aM 0)), (3, kI i)] [] zC zM) : lAt p l e s m b below meth c D cA aC aM 627 [(0, .ref b), (1, .ref (aC 0)), (2, .ref (aM 0)), (3, kI i)] [] zC zM := by
  have h := ho (xs (i + 1).toNat).toInt (xs (i + 2).toNat).toInt (xs (i + 3).toNat).toInt (xs (i + 4).toNat).toInt (xs (i + 5).toNat).toInt zC zM (kI_rg _) (kI_rg _) (kI_rg _) (kI_rg _) (kI_rg _) hI
  refine l_aload_n X dL_law_627 1 rfl ?_
  refine l_aload_n X dL_law_628 0 rfl ?_
  refine l_iload_n X dL_law_629 3 rfl ?_
  refine l_iconst X dL_law_630 ?_
  refine l_iadd X dL_law_631 ?_
  refine l_ld X (by omega) dL_law_632 ?_
  refine l_aload_n X dL_law_633 0 rfl ?_
  refine l_iload_n X dL_law_634 3 rfl ?_
  refine l_iconst X dL_law_635 ?_
  refine l_iadd X dL_law_636 ?_
  refine l_ld X (by omega) dL_law_637 ?_
  refine l_aload_n X dL_law_638 0 rfl ?_
  refine l_iload_n X dL_law_639 3 rfl ?_
  refine l_iconst X dL_law_640 ?_
  refine l_iadd X dL_law_641 ?_
  refine l_ld X (by omega) dL_law_642 ?_
  refine l_aload_n X dL_law_643 0 rfl ?_
  refine l_iload_n X dL_law_644 3 rfl ?_
  refine l_iconst X dL_law_645 ?_
  refine l_iadd X dL_law_646 ?_
  refine l_ld X (by omega) dL_law_647 ?_
  refine l_aload_n X dL_law_648 0 rfl ?_
  refine l_iload_n X dL_law_649 3 rfl ?_
  refine l_iconst X dL_law_650 ?_
  refine l_iadd X dL_law_651 ?_
  refine l_ld X (by omega) dL_law_652 ?_
  refine l_callCI (st := []) X (fun H locs ls hP hS hl => l_runC (As := [kI (xs (i + 1).toNat).toInt, kI (xs (i + 2).toNat).toInt, kI (xs (i + 3).toNat).toInt, kI (xs (i + 4).toNat).toInt, kI (xs (i + 5).toNat).toInt]) X lk_L_77 rfl yo_X9_proof rfl ⟨by decide, by decide⟩ (fun hj => ct_X9_proof hj _ _ _ _ _ _ _ h) (Nat.le_of_ble_eq_true rfl) dL_law_653 hP hS hl) (fun v0 w0 h => ?_)
  refine l_aload_n X dL_law_656 2 rfl ?_
  refine l_aload_n X dL_law_657 0 rfl ?_
  refine l_iload_n X dL_law_658 3 rfl ?_
  refine l_iconst X dL_law_659 ?_
  refine l_iadd X dL_law_660 ?_
  refine l_ld X (by omega) dL_law_661 ?_
  refine l_aload_n X dL_law_662 0 rfl ?_
  refine l_iload_n X dL_law_663 3 rfl ?_
  refine l_iconst X dL_law_664 ?_
  refine l_iadd X dL_law_665 ?_
  refine l_ld X (by omega) dL_law_666 ?_
  refine l_aload_n X dL_law_667 0 rfl ?_
  refine l_iload_n X dL_law_668 3 rfl ?_
  refine l_iconst X dL_law_669 ?_
  refine l_iadd X dL_law_670 ?_
  refine l_ld X (by omega) dL_law_671 ?_
  refine l_aload_n X dL_law_672 0 rfl ?_
  refine l_iload_n X dL_law_673 3 rfl ?_
  refine l_iconst X dL_law_674 ?_
  refine l_iadd X dL_law_675 ?_
  refine l_ld X (by omega) dL_law_676 ?_
  refine l_aload_n X dL_law_677 0 rfl ?_
  refine l_iload_n X dL_law_678 3 rfl ?_
  refine l_iconst X dL_law_679 ?_
  refine l_iadd X dL_law_680 ?_
  refine l_ld X (by omega) dL_law_681 ?_
  refine l_callMI (st := [kI v0]) X (fun H locs ls hP hS hl => l_runM (As := [kI (xs (i + 1).toNat).toInt, kI (xs (i + 2).toNat).toInt, kI (xs (i + 3).toNat).toInt, kI (xs (i + 4).toNat).toInt, kI (xs (i + 5).toNat).toInt]) X lk_L_81 rfl yo_X10_proof rfl ⟨by decide, by decide⟩ (fun hj => ct_X10_proof hj _ _ _ _ _ _ _ h) (Nat.le_of_ble_eq_true rfl) dL_law_682 hP hS hl) (fun v1 w1 h => ?_)
  obtain ⟨e1, h⟩ := h
  subst e1
  refine l_eq (tgt := 1439) X dL_law_685 (by decide) h.1 ?_
  exact hn _ _ h.2
set_option maxRecDepth 100000 in
theorem law_c16 (X : lCx p s m meth c b L xs D cA aC aM sa) {Inv : Hp → Hp → Prop} (ho : op16 Inv) {i : Int} (hi : 0 ≤ i ∧ i + 6 ≤ (L : Int)) (hI : Inv zC zM) (hn : ∀ zC zM, Inv zC zM → lAt p l e s m b below meth c D cA aC aM 1439 [(0, .ref b), (1, .ref (aC 0)), (2, .ref (aM 0)), (3, kI i)] [] zC zM) : lAt p l e s m b below meth c D cA aC aM 690 [(0, .ref b), (1, .ref (aC 0)), (2, .ref (aM 0)), (3, kI i)] [] zC zM := by
  have h := ho (xs (i + 1).toNat).toInt (xs (i + 2).toNat).toInt (xs (i + 3).toNat).toInt zC zM (kI_rg _) (kI_rg _) (kI_rg _) hI
  refine l_aload_n X dL_law_690 1 rfl ?_
  refine l_aload_n X dL_law_691 0 rfl ?_
  refine l_iload_n X dL_law_692 3 rfl ?_
  refine l_iconst X dL_law_693 ?_
  refine l_iadd X dL_law_694 ?_
  refine l_ld X (by omega) dL_law_695 ?_
  refine l_aload_n X dL_law_696 0 rfl ?_
  refine l_iload_n X dL_law_697 3 rfl ?_
  refine l_iconst X dL_law_698 ?_
  refine l_iadd X dL_law_699 ?_
  refine l_ld X (by omega) dL_law_700 ?_
  refine l_aload_n X dL_law_701 0 rfl ?_
  refine l_iload_n X dL_law_702 3 rfl ?_
  refine l_iconst X dL_law_703 ?_
  refine l_iadd X dL_law_704 ?_
  refine l_ld X (by omega) dL_law_705 ?_
  refine l_callCI (st := []) X (fun H locs ls hP hS hl => l_runC (As := [kI (xs (i + 1).toNat).toInt, kI (xs (i + 2).toNat).toInt, kI (xs (i + 3).toNat).toInt]) X lk_L_82 rfl yo_X9_prove rfl ⟨by decide, by decide⟩ (fun hj => ct_X9_prove hj _ _ _ _ _ h) (Nat.le_of_ble_eq_true rfl) dL_law_706 hP hS hl) (fun v0 w0 h => ?_)
  refine l_aload_n X dL_law_709 2 rfl ?_
  refine l_aload_n X dL_law_710 0 rfl ?_
  refine l_iload_n X dL_law_711 3 rfl ?_
  refine l_iconst X dL_law_712 ?_
  refine l_iadd X dL_law_713 ?_
  refine l_ld X (by omega) dL_law_714 ?_
  refine l_aload_n X dL_law_715 0 rfl ?_
  refine l_iload_n X dL_law_716 3 rfl ?_
  refine l_iconst X dL_law_717 ?_
  refine l_iadd X dL_law_718 ?_
  refine l_ld X (by omega) dL_law_719 ?_
  refine l_aload_n X dL_law_720 0 rfl ?_
  refine l_iload_n X dL_law_721 3 rfl ?_
  refine l_iconst X dL_law_722 ?_
  refine l_iadd X dL_law_723 ?_
  refine l_ld X (by omega) dL_law_724 ?_
  refine l_callMI (st := [kI v0]) X (fun H locs ls hP hS hl => l_runM (As := [kI (xs (i + 1).toNat).toInt, kI (xs (i + 2).toNat).toInt, kI (xs (i + 3).toNat).toInt]) X lk_L_85 rfl yo_X10_prove rfl ⟨by decide, by decide⟩ (fun hj => ct_X10_prove hj _ _ _ _ _ h) (Nat.le_of_ble_eq_true rfl) dL_law_725 hP hS hl) (fun v1 w1 h => ?_)
  refine l_eq (tgt := 1439) X dL_law_728 (by decide) h.1 ?_
  exact hn _ _ h.2
set_option maxRecDepth 100000 in
theorem law_c17 (X : lCx p s m meth c b L xs D cA aC aM sa) {Inv : Hp → Hp → Prop} (ho : op17 Inv) {i : Int} (hi : 0 ≤ i ∧ i + 6 ≤ (L : Int)) (hI : Inv zC zM) (hn : ∀ zC zM, Inv zC zM → lAt p l e s m b below meth c D cA aC aM 1439 [(0, .ref b), (1, .ref (aC 0)), (2, .ref (aM 0)), (3, kI i)] [] zC zM) : lAt p l e s m b below meth c D cA aC aM 733 [(0, .ref b), (1, .ref (aC 0)), (2, .ref (aM 0)), (3, kI i)] [] zC zM := by
  have h := ho (xs (i + 1).toNat).toInt zC zM (kI_rg _) hI
  refine l_aload_n X dL_law_733 1 rfl ?_
  refine l_aload_n X dL_law_734 0 rfl ?_
  refine l_iload_n X dL_law_735 3 rfl ?_
  refine l_iconst X dL_law_736 ?_
  refine l_iadd X dL_law_737 ?_
  refine l_ld X (by omega) dL_law_738 ?_
  refine l_callCI (st := []) X (fun H locs ls hP hS hl => l_runC (As := [kI (xs (i + 1).toNat).toInt]) X lk_L_86 rfl yo_X9_clash rfl ⟨by decide, by decide⟩ (fun hj => ct_X9_clash hj _ _ _ h) (Nat.le_of_ble_eq_true rfl) dL_law_739 hP hS hl) (fun v0 w0 h => ?_)
  refine l_aload_n X dL_law_742 2 rfl ?_
  refine l_aload_n X dL_law_743 0 rfl ?_
  refine l_iload_n X dL_law_744 3 rfl ?_
  refine l_iconst X dL_law_745 ?_
  refine l_iadd X dL_law_746 ?_
  refine l_ld X (by omega) dL_law_747 ?_
  refine l_callMI (st := [kI v0]) X (fun H locs ls hP hS hl => l_runM (As := [kI (xs (i + 1).toNat).toInt]) X lk_L_89 rfl yo_X10_clash rfl ⟨by decide, by decide⟩ (fun hj => ct_X10_clash hj _ _ _ h) (Nat.le_of_ble_eq_true rfl) dL_law_748 hP hS hl) (fun v1 w1 h => ?_)
  obtain ⟨e1, h⟩ := h
  subst e1
  refine l_eq (tgt := 1439) X dL_law_751 (by decide) h.1 ?_
  exact hn _ _ h.2
set_option maxRecDepth 100000 in
theorem law_c18 (X : lCx p s m meth c b L xs D cA aC aM sa) {Inv : Hp → Hp → Prop} (ho : op18 Inv) {i : Int} (hi : 0 ≤ i ∧ i + 6 ≤ (L : Int)) (hI : Inv zC zM) (hn : ∀ zC zM, Inv zC zM → lAt p l e s m b below meth c D cA aC aM 1439 [(0, .ref b), (1, .ref (aC 0)), (2, .ref (aM 0)), (3, kI i)] [] zC zM) : lAt p l e s m b below meth c D cA aC aM 756 [(0, .ref b), (1, .ref (aC 0)), (2, .ref (aM 0)), (3, kI i)] [] zC zM := by
  have h := ho (xs (i + 1).toNat).toInt (xs (i + 2).toNat).toInt (xs (i + 3).toNat).toInt zC zM (kI_rg _) (kI_rg _) (kI_rg _) hI
  refine l_aload_n X dL_law_756 1 rfl ?_
  refine l_aload_n X dL_law_757 0 rfl ?_
  refine l_iload_n X dL_law_758 3 rfl ?_
  refine l_iconst X dL_law_759 ?_
  refine l_iadd X dL_law_760 ?_
  refine l_ld X (by omega) dL_law_761 ?_
  refine l_aload_n X dL_law_762 0 rfl ?_
  refine l_iload_n X dL_law_763 3 rfl ?_
  refine l_iconst X dL_law_764 ?_
  refine l_iadd X dL_law_765 ?_
  refine l_ld X (by omega) dL_law_766 ?_
  refine l_aload_n X dL_law_767 0 rfl ?_
  refine l_iload_n X dL_law_768 3 rfl ?_
  refine l_iconst X dL_law_769 ?_
  refine l_iadd X dL_law_770 ?_
  refine l_ld X (by omega) dL_law_771 ?_
  refine l_callCI (st := []) X (fun H locs ls hP hS hl => l_runC (As := [kI (xs (i + 1).toNat).toInt, kI (xs (i + 2).toNat).toInt, kI (xs (i + 3).toNat).toInt]) X lk_L_90 rfl yo_X9_why rfl ⟨by decide, by decide⟩ (fun hj => ct_X9_why hj _ _ _ _ _ h) (Nat.le_of_ble_eq_true rfl) dL_law_772 hP hS hl) (fun v0 w0 h => ?_)
  refine l_aload_n X dL_law_775 2 rfl ?_
  refine l_aload_n X dL_law_776 0 rfl ?_
  refine l_iload_n X dL_law_777 3 rfl ?_
  refine l_iconst X dL_law_778 ?_
  refine l_iadd X dL_law_779 ?_
  refine l_ld X (by omega) dL_law_780 ?_
  refine l_aload_n X dL_law_781 0 rfl ?_
  refine l_iload_n X dL_law_782 3 rfl ?_
  refine l_iconst X dL_law_783 ?_
  refine l_iadd X dL_law_784 ?_
  refine l_ld X (by omega) dL_law_785 ?_
  refine l_aload_n X dL_law_786 0 rfl ?_
  refine l_iload_n X dL_law_787 3 rfl ?_
  refine l_iconst X dL_law_788 ?_
  refine l_iadd X dL_law_789 ?_
  refine l_ld X (by omega) dL_law_790 ?_
  refine l_callMI (st := [kI v0]) X (fun H locs ls hP hS hl => l_runM (As := [kI (xs (i + 1).toNat).toInt, kI (xs (i + 2).toNat).toInt, kI (xs (i + 3).toNat).toInt]) X lk_L_93 rfl yo_X10_why rfl ⟨by decide, by decide⟩ (fun hj => ct_X10_why hj _ _ _ _ _ h) (Nat.le_of_ble_eq_true rfl) dL_law_791 hP hS hl) (fun v1 w1 h => ?_)
  obtain ⟨e1, h⟩ := h
  subst e1
  refine l_eq (tgt := 1439) X dL_law_794 (by decide) h.1 ?_
  exact hn _ _ h.2
set_option maxRecDepth 100000 in
theorem law_c19 (X : lCx p s m meth c b L xs D cA aC aM sa) {Inv : Hp → Hp → Prop} (ho : op19 Inv) {i : Int} (hi : 0 ≤ i ∧ i + 6 ≤ (L : Int)) (hI : Inv zC zM) (hn : ∀ zC zM, Inv zC zM → lAt p l e s m b below meth c D cA aC aM 1439 [(0, .ref b), (1, .ref (aC 0)), (2, .ref (aM 0)), (3, kI i)] [] zC zM) : lAt p l e s m b below meth c D cA aC aM 799 [(0, .ref b), (1, .ref (aC 0)), (2, .ref (aM 0)), (3, kI i)] [] zC zM := by
  have h := ho (xs (i + 1).toNat).toInt zC zM (kI_rg _) hI
  refine l_aload_n X dL_law_799 1 rfl ?_
  refine l_aload_n X dL_law_800 0 rfl ?_
  refine l_iload_n X dL_law_801 3 rfl ?_
  refine l_iconst X dL_law_802 ?_
  refine l_iadd X dL_law_803 ?_
  refine l_ld X (by omega) dL_law_804 ?_
  refine l_callCI (st := []) X (fun H locs ls hP hS hl => l_runC (As := [kI (xs (i + 1).toNat).toInt]) X lk_L_94 rfl yo_X9_culprit rfl ⟨by decide, by decide⟩ (fun hj => ct_X9_culprit hj _ _ _ h) (Nat.le_of_ble_eq_true rfl) dL_law_805 hP hS hl) (fun v0 w0 h => ?_)
  refine l_aload_n X dL_law_808 2 rfl ?_
  refine l_aload_n X dL_law_809 0 rfl ?_
  refine l_iload_n X dL_law_810 3 rfl ?_
  refine l_iconst X dL_law_811 ?_
  refine l_iadd X dL_law_812 ?_
  refine l_ld X (by omega) dL_law_813 ?_
  refine l_callMI (st := [kI v0]) X (fun H locs ls hP hS hl => l_runM (As := [kI (xs (i + 1).toNat).toInt]) X lk_L_97 rfl yo_X10_culprit rfl ⟨by decide, by decide⟩ (fun hj => ct_X10_culprit hj _ _ _ h) (Nat.le_of_ble_eq_true rfl) dL_law_814 hP hS hl) (fun v1 w1 h => ?_)
  refine l_eq (tgt := 1439) X dL_law_817 (by decide) h.1 ?_
  exact hn _ _ h.2
set_option maxRecDepth 100000 in
theorem law_c20 (X : lCx p s m meth c b L xs D cA aC aM sa) {Inv : Hp → Hp → Prop} (ho : op20 Inv) {i : Int} (hi : 0 ≤ i ∧ i + 6 ≤ (L : Int)) (hI : Inv zC zM) (hn : ∀ zC zM, Inv zC zM → lAt p l e s m b below meth c D cA aC aM 1439 [(0, .ref b), (1, .ref (aC 0)), (2, .ref (aM 0)), (3, kI i)] [] zC zM) : lAt p l e s m b below meth c D cA aC aM 822 [(0, .ref b), (1, .ref (aC 0)), (2, .ref (aM 0)), (3, kI i)] [] zC zM := by
  have h := ho (xs (i + 1).toNat).toInt (xs (i + 2).toNat).toInt zC zM (kI_rg _) (kI_rg _) hI
  refine l_aload_n X dL_law_822 1 rfl ?_
  refine l_aload_n X dL_law_823 0 rfl ?_
  refine l_iload_n X dL_law_824 3 rfl ?_
  refine l_iconst X dL_law_825 ?_
  refine l_iadd X dL_law_826 ?_
  refine l_ld X (by omega) dL_law_827 ?_
  refine l_aload_n X dL_law_828 0 rfl ?_
  refine l_iload_n X dL_law_829 3 rfl ?_
  refine l_iconst X dL_law_830 ?_
  refine l_iadd X dL_law_831 ?_
  refine l_ld X (by omega) dL_law_832 ?_
  refine l_callCI (st := []) X (fun H locs ls hP hS hl => l_runC (As := [kI (xs (i + 1).toNat).toInt, kI (xs (i + 2).toNat).toInt]) X lk_L_98 rfl yo_X9_same rfl ⟨by decide, by decide⟩ (fun hj => ct_X9_same hj _ _ _ _ h) (Nat.le_of_ble_eq_true rfl) dL_law_833 hP hS hl) (fun v0 w0 h => ?_)
  refine l_aload_n X dL_law_836 2 rfl ?_
  refine l_aload_n X dL_law_837 0 rfl ?_
  refine l_iload_n X dL_law_838 3 rfl ?_
  refine l_iconst X dL_law_839 ?_
  refine l_iadd X dL_law_840 ?_
  refine l_ld X (by omega) dL_law_841 ?_
  refine l_aload_n X dL_law_842 0 rfl ?_
  refine l_iload_n X dL_law_843 3 rfl ?_
  refine l_iconst X dL_law_844 ?_
  refine l_iadd X dL_law_845 ?_
  refine l_ld X (by omega) dL_law_846 ?_
  refine l_callMI (st := [kI v0]) X (fun H locs ls hP hS hl => l_runM (As := [kI (xs (i + 1).toNat).toInt, kI (xs (i + 2).toNat).toInt]) X lk_L_101 rfl yo_X10_same rfl ⟨by decide, by decide⟩ (fun hj => ct_X10_same hj _ _ _ _ h) (Nat.le_of_ble_eq_true rfl) dL_law_847 hP hS hl) (fun v1 w1 h => ?_)
  refine l_eq (tgt := 1439) X dL_law_850 (by decide) h.1 ?_
  exact hn _ _ h.2
set_option maxRecDepth 100000 in
theorem law_c21 (X : lCx p s m meth c b L xs D cA aC aM sa) {Inv : Hp → Hp → Prop} (ho : op21 Inv) {i : Int} (hi : 0 ≤ i ∧ i + 6 ≤ (L : Int)) (hI : Inv zC zM) (hn : ∀ zC zM, Inv zC zM → lAt p l e s m b below meth c D cA aC aM 1439 [(0, .ref b), (1, .ref (aC 0)), (2, .ref (aM 0)), (3, kI i)] [] zC zM) : lAt p l e s m b below meth c D cA aC aM 855 [(0, .ref b), (1, .ref (aC 0)), (2, .ref (aM 0)), (3, kI i)] [] zC zM := by
  have h := ho (xs (i + 1).toNat).toInt (xs (i + 2).toNat).toInt zC zM (kI_rg _) (kI_rg _) hI
  refine l_aload_n X dL_law_855 1 rfl ?_
  refine l_aload_n X dL_law_856 0 rfl ?_
  refine l_iload_n X dL_law_857 3 rfl ?_
  refine l_iconst X dL_law_858 ?_
  refine l_iadd X dL_law_859 ?_
  refine l_ld X (by omega) dL_law_860 ?_
  refine l_aload_n X dL_law_861 0 rfl ?_
  refine l_iload_n X dL_law_862 3 rfl ?_
  refine l_iconst X dL_law_863 ?_
  refine l_iadd X dL_law_864 ?_
  refine l_ld X (by omega) dL_law_865 ?_
  refine l_callCI (st := []) X (fun H locs ls hP hS hl => l_runC (As := [kI (xs (i + 1).toNat).toInt, kI (xs (i + 2).toNat).toInt]) X lk_L_102 rfl yo_X9_narrows rfl ⟨by decide, by decide⟩ (fun hj => ct_X9_narrows hj _ _ _ _ h) (Nat.le_of_ble_eq_true rfl) dL_law_866 hP hS hl) (fun v0 w0 h => ?_)
  refine l_aload_n X dL_law_869 2 rfl ?_
  refine l_aload_n X dL_law_870 0 rfl ?_
  refine l_iload_n X dL_law_871 3 rfl ?_
  refine l_iconst X dL_law_872 ?_
  refine l_iadd X dL_law_873 ?_
  refine l_ld X (by omega) dL_law_874 ?_
  refine l_aload_n X dL_law_875 0 rfl ?_
  refine l_iload_n X dL_law_876 3 rfl ?_
  refine l_iconst X dL_law_877 ?_
  refine l_iadd X dL_law_878 ?_
  refine l_ld X (by omega) dL_law_879 ?_
  refine l_callMI (st := [kI v0]) X (fun H locs ls hP hS hl => l_runM (As := [kI (xs (i + 1).toNat).toInt, kI (xs (i + 2).toNat).toInt]) X lk_L_105 rfl yo_X10_narrows_ rfl ⟨by decide, by decide⟩ (fun hj => ct_X10_narrows_ hj _ _ _ _ h) (Nat.le_of_ble_eq_true rfl) dL_law_880 hP hS hl) (fun v1 w1 h => ?_)
  refine l_eq (tgt := 1439) X dL_law_883 (by decide) h.1 ?_
  exact hn _ _ h.2
set_option maxRecDepth 100000 in
theorem law_c22 (X : lCx p s m meth c b L xs D cA aC aM sa) {Inv : Hp → Hp → Prop} (ho : op22 Inv) {i : Int} (hi : 0 ≤ i ∧ i + 6 ≤ (L : Int)) (hI : Inv zC zM) (hn : ∀ zC zM, Inv zC zM → lAt p l e s m b below meth c D cA aC aM 1439 [(0, .ref b), (1, .ref (aC 0)), (2, .ref (aM 0)), (3, kI i)] [] zC zM) : lAt p l e s m b below meth c D cA aC aM 888 [(0, .ref b), (1, .ref (aC 0)), (2, .ref (aM 0)), (3, kI i)] [] zC zM := by
  have h := ho  zC zM  hI
  refine l_aload_n X dL_law_888 1 rfl ?_
  refine l_callCI (st := []) X (fun H locs ls hP hS hl => l_runC (As := []) X lk_L_106 rfl yo_X9_rounds rfl ⟨by decide, by decide⟩ (fun hj => ct_X9_rounds hj  _ _ h) (Nat.le_of_ble_eq_true rfl) dL_law_889 hP hS hl) (fun v0 w0 h => ?_)
  refine l_aload_n X dL_law_892 2 rfl ?_
  refine l_callMI (st := [kI v0]) X (fun H locs ls hP hS hl => l_runM (As := []) X lk_L_109 rfl yo_X10_rounds rfl ⟨by decide, by decide⟩ (fun hj => ct_X10_rounds hj  _ _ h) (Nat.le_of_ble_eq_true rfl) dL_law_893 hP hS hl) (fun v1 w1 h => ?_)
  obtain ⟨e1, h⟩ := h
  subst e1
  refine l_eq (tgt := 1439) X dL_law_896 (by decide) h.1 ?_
  exact hn _ _ h.2
set_option maxRecDepth 100000 in
theorem law_c23 (X : lCx p s m meth c b L xs D cA aC aM sa) {Inv : Hp → Hp → Prop} (ho : op23 Inv) {i : Int} (hi : 0 ≤ i ∧ i + 6 ≤ (L : Int)) (hI : Inv zC zM) (hn : ∀ zC zM, Inv zC zM → lAt p l e s m b below meth c D cA aC aM 1439 [(0, .ref b), (1, .ref (aC 0)), (2, .ref (aM 0)), (3, kI i)] [] zC zM) : lAt p l e s m b below meth c D cA aC aM 901 [(0, .ref b), (1, .ref (aC 0)), (2, .ref (aM 0)), (3, kI i)] [] zC zM := by
  have h := ho (xs (i + 1).toNat).toInt (xs (i + 2).toNat).toInt zC zM (kI_rg _) (kI_rg _) hI
  refine l_aload_n X dL_law_901 1 rfl ?_
  refine l_aload_n X dL_law_902 0 rfl ?_
  refine l_iload_n X dL_law_903 3 rfl ?_
  refine l_iconst X dL_law_904 ?_
  refine l_iadd X dL_law_905 ?_
  refine l_ld X (by omega) dL_law_906 ?_
  refine l_aload_n X dL_law_907 0 rfl ?_
  refine l_iload_n X dL_law_908 3 rfl ?_
  refine l_iconst X dL_law_909 ?_
  refine l_iadd X dL_law_910 ?_
  refine l_ld X (by omega) dL_law_911 ?_
  refine l_callCI (st := []) X (fun H locs ls hP hS hl => l_runC (As := [kI (xs (i + 1).toNat).toInt, kI (xs (i + 2).toNat).toInt]) X lk_L_110 rfl yo_X9_kin rfl ⟨by decide, by decide⟩ (fun hj => ct_X9_kin hj _ _ _ _ h) (Nat.le_of_ble_eq_true rfl) dL_law_912 hP hS hl) (fun v0 w0 h => ?_)
  refine l_aload_n X dL_law_915 2 rfl ?_
  refine l_aload_n X dL_law_916 0 rfl ?_
  refine l_iload_n X dL_law_917 3 rfl ?_
  refine l_iconst X dL_law_918 ?_
  refine l_iadd X dL_law_919 ?_
  refine l_ld X (by omega) dL_law_920 ?_
  refine l_aload_n X dL_law_921 0 rfl ?_
  refine l_iload_n X dL_law_922 3 rfl ?_
  refine l_iconst X dL_law_923 ?_
  refine l_iadd X dL_law_924 ?_
  refine l_ld X (by omega) dL_law_925 ?_
  refine l_callMI (st := [kI v0]) X (fun H locs ls hP hS hl => l_runM (As := [kI (xs (i + 1).toNat).toInt, kI (xs (i + 2).toNat).toInt]) X lk_L_113 rfl yo_X10_kin rfl ⟨by decide, by decide⟩ (fun hj => ct_X10_kin hj _ _ _ _ h) (Nat.le_of_ble_eq_true rfl) dL_law_926 hP hS hl) (fun v1 w1 h => ?_)
  refine l_eq (tgt := 1439) X dL_law_929 (by decide) h.1 ?_
  exact hn _ _ h.2
set_option maxRecDepth 100000 in
theorem law_c24 (X : lCx p s m meth c b L xs D cA aC aM sa) {Inv : Hp → Hp → Prop} (ho : op24 Inv) {i : Int} (hi : 0 ≤ i ∧ i + 6 ≤ (L : Int)) (hI : Inv zC zM) (hn : ∀ zC zM, Inv zC zM → lAt p l e s m b below meth c D cA aC aM 1439 [(0, .ref b), (1, .ref (aC 0)), (2, .ref (aM 0)), (3, kI i)] [] zC zM) : lAt p l e s m b below meth c D cA aC aM 934 [(0, .ref b), (1, .ref (aC 0)), (2, .ref (aM 0)), (3, kI i)] [] zC zM := by
  have h := ho (xs (i + 1).toNat).toInt (xs (i + 2).toNat).toInt zC zM (kI_rg _) (kI_rg _) hI
  refine l_aload_n X dL_law_934 1 rfl ?_
  refine l_aload_n X dL_law_935 0 rfl ?_
  refine l_iload_n X dL_law_936 3 rfl ?_
  refine l_iconst X dL_law_937 ?_
  refine l_iadd X dL_law_938 ?_
  refine l_ld X (by omega) dL_law_939 ?_
  refine l_aload_n X dL_law_940 0 rfl ?_
  refine l_iload_n X dL_law_941 3 rfl ?_
  refine l_iconst X dL_law_942 ?_
  refine l_iadd X dL_law_943 ?_
  refine l_ld X (by omega) dL_law_944 ?_
  refine l_callCI (st := []) X (fun H locs ls hP hS hl => l_runC (As := [kI (xs (i + 1).toNat).toInt, kI (xs (i + 2).toNat).toInt]) X lk_L_114 rfl yo_X9_common rfl ⟨by decide, by decide⟩ (fun hj => ct_X9_common hj _ _ _ _ h) (Nat.le_of_ble_eq_true rfl) dL_law_945 hP hS hl) (fun v0 w0 h => ?_)
  refine l_aload_n X dL_law_948 2 rfl ?_
  refine l_aload_n X dL_law_949 0 rfl ?_
  refine l_iload_n X dL_law_950 3 rfl ?_
  refine l_iconst X dL_law_951 ?_
  refine l_iadd X dL_law_952 ?_
  refine l_ld X (by omega) dL_law_953 ?_
  refine l_aload_n X dL_law_954 0 rfl ?_
  refine l_iload_n X dL_law_955 3 rfl ?_
  refine l_iconst X dL_law_956 ?_
  refine l_iadd X dL_law_957 ?_
  refine l_ld X (by omega) dL_law_958 ?_
  refine l_callMI (st := [kI v0]) X (fun H locs ls hP hS hl => l_runM (As := [kI (xs (i + 1).toNat).toInt, kI (xs (i + 2).toNat).toInt]) X lk_L_117 rfl yo_X10_common rfl ⟨by decide, by decide⟩ (fun hj => ct_X10_common hj _ _ _ _ h) (Nat.le_of_ble_eq_true rfl) dL_law_959 hP hS hl) (fun v1 w1 h => ?_)
  refine l_eq (tgt := 1439) X dL_law_962 (by decide) h.1 ?_
  exact hn _ _ h.2
set_option maxRecDepth 100000 in
theorem law_c25 (X : lCx p s m meth c b L xs D cA aC aM sa) {Inv : Hp → Hp → Prop} (ho : op25 Inv) {i : Int} (hi : 0 ≤ i ∧ i + 6 ≤ (L : Int)) (hI : Inv zC zM) (hn : ∀ zC zM, Inv zC zM → lAt p l e s m b below meth c D cA aC aM 1439 [(0, .ref b), (1, .ref (aC 0)), (2, .ref (aM 0)), (3, kI i)] [] zC zM) : lAt p l e s m b below meth c D cA aC aM 967 [(0, .ref b), (1, .ref (aC 0)), (2, .ref (aM 0)), (3, kI i)] [] zC zM := by
  have h := ho (xs (i + 1).toNat).toInt (xs (i + 2).toNat).toInt zC zM (kI_rg _) (kI_rg _) hI
  refine l_aload_n X dL_law_967 1 rfl ?_
  refine l_aload_n X dL_law_968 0 rfl ?_
  refine l_iload_n X dL_law_969 3 rfl ?_
  refine l_iconst X dL_law_970 ?_
  refine l_iadd X dL_law_971 ?_
  refine l_ld X (by omega) dL_law_972 ?_
  refine l_aload_n X dL_law_973 0 rfl ?_
  refine l_iload_n X dL_law_974 3 rfl ?_
  refine l_iconst X dL_law_975 ?_
  refine l_iadd X dL_law_976 ?_
  refine l_ld X (by omega) dL_law_977 ?_
  refine l_callCI (st := []) X (fun H locs ls hP hS hl => l_runC (As := [kI (xs (i + 1).toNat).toInt, kI (xs (i + 2).toNat).toInt]) X lk_L_118 rfl yo_X9_half rfl ⟨by decide, by decide⟩ (fun hj => ct_X9_half hj _ _ _ _ h) (Nat.le_of_ble_eq_true rfl) dL_law_978 hP hS hl) (fun v0 w0 h => ?_)
  refine l_aload_n X dL_law_981 2 rfl ?_
  refine l_aload_n X dL_law_982 0 rfl ?_
  refine l_iload_n X dL_law_983 3 rfl ?_
  refine l_iconst X dL_law_984 ?_
  refine l_iadd X dL_law_985 ?_
  refine l_ld X (by omega) dL_law_986 ?_
  refine l_aload_n X dL_law_987 0 rfl ?_
  refine l_iload_n X dL_law_988 3 rfl ?_
  refine l_iconst X dL_law_989 ?_
  refine l_iadd X dL_law_990 ?_
  refine l_ld X (by omega) dL_law_991 ?_
  refine l_callMI (st := [kI v0]) X (fun H locs ls hP hS hl => l_runM (As := [kI (xs (i + 1).toNat).toInt, kI (xs (i + 2).toNat).toInt]) X lk_L_121 rfl yo_X10_half rfl ⟨by decide, by decide⟩ (fun hj => ct_X10_half hj _ _ _ _ h) (Nat.le_of_ble_eq_true rfl) dL_law_992 hP hS hl) (fun v1 w1 h => ?_)
  refine l_eq (tgt := 1439) X dL_law_995 (by decide) h.1 ?_
  exact hn _ _ h.2
set_option maxRecDepth 100000 in
theorem law_c26 (X : lCx p s m meth c b L xs D cA aC aM sa) {Inv : Hp → Hp → Prop} (ho : op26 Inv) {i : Int} (hi : 0 ≤ i ∧ i + 6 ≤ (L : Int)) (hI : Inv zC zM) (hn : ∀ zC zM, Inv zC zM → lAt p l e s m b below meth c D cA aC aM 1439 [(0, .ref b), (1, .ref (aC 0)), (2, .ref (aM 0)), (3, kI i)] [] zC zM) : lAt p l e s m b below meth c D cA aC aM 1000 [(0, .ref b), (1, .ref (aC 0)), (2, .ref (aM 0)), (3, kI i)] [] zC zM := by
  have h := ho (xs (i + 1).toNat).toInt (xs (i + 2).toNat).toInt zC zM (kI_rg _) (kI_rg _) hI
  refine l_aload_n X dL_law_1000 1 rfl ?_
  refine l_aload_n X dL_law_1001 0 rfl ?_
  refine l_iload_n X dL_law_1002 3 rfl ?_
  refine l_iconst X dL_law_1003 ?_
  refine l_iadd X dL_law_1004 ?_
  refine l_ld X (by omega) dL_law_1005 ?_
  refine l_aload_n X dL_law_1006 0 rfl ?_
  refine l_iload_n X dL_law_1007 3 rfl ?_
  refine l_iconst X dL_law_1008 ?_
  refine l_iadd X dL_law_1009 ?_
  refine l_ld X (by omega) dL_law_1010 ?_
  refine l_callCI (st := []) X (fun H locs ls hP hS hl => l_runC (As := [kI (xs (i + 1).toNat).toInt, kI (xs (i + 2).toNat).toInt]) X lk_L_122 rfl yo_X9_title rfl ⟨by decide, by decide⟩ (fun hj => ct_X9_title hj _ _ _ _ h) (Nat.le_of_ble_eq_true rfl) dL_law_1011 hP hS hl) (fun v0 w0 h => ?_)
  refine l_aload_n X dL_law_1014 2 rfl ?_
  refine l_aload_n X dL_law_1015 0 rfl ?_
  refine l_iload_n X dL_law_1016 3 rfl ?_
  refine l_iconst X dL_law_1017 ?_
  refine l_iadd X dL_law_1018 ?_
  refine l_ld X (by omega) dL_law_1019 ?_
  refine l_aload_n X dL_law_1020 0 rfl ?_
  refine l_iload_n X dL_law_1021 3 rfl ?_
  refine l_iconst X dL_law_1022 ?_
  refine l_iadd X dL_law_1023 ?_
  refine l_ld X (by omega) dL_law_1024 ?_
  refine l_callMI (st := [kI v0]) X (fun H locs ls hP hS hl => l_runM (As := [kI (xs (i + 1).toNat).toInt, kI (xs (i + 2).toNat).toInt]) X lk_L_125 rfl yo_X10_title rfl ⟨by decide, by decide⟩ (fun hj => ct_X10_title hj _ _ _ _ h) (Nat.le_of_ble_eq_true rfl) dL_law_1025 hP hS hl) (fun v1 w1 h => ?_)
  refine l_eq (tgt := 1439) X dL_law_1028 (by decide) h.1 ?_
  exact hn _ _ h.2
set_option maxRecDepth 100000 in
theorem law_c27 (X : lCx p s m meth c b L xs D cA aC aM sa) {Inv : Hp → Hp → Prop} (ho : op27 Inv) {i : Int} (hi : 0 ≤ i ∧ i + 6 ≤ (L : Int)) (hI : Inv zC zM) (hn : ∀ zC zM, Inv zC zM → lAt p l e s m b below meth c D cA aC aM 1439 [(0, .ref b), (1, .ref (aC 0)), (2, .ref (aM 0)), (3, kI i)] [] zC zM) : lAt p l e s m b below meth c D cA aC aM 1033 [(0, .ref b), (1, .ref (aC 0)), (2, .ref (aM 0)), (3, kI i)] [] zC zM := by
  have h := ho (xs (i + 1).toNat).toInt (xs (i + 2).toNat).toInt (xs (i + 3).toNat).toInt zC zM (kI_rg _) (kI_rg _) (kI_rg _) hI
  refine l_aload_n X dL_law_1033 1 rfl ?_
  refine l_aload_n X dL_law_1034 0 rfl ?_
  refine l_iload_n X dL_law_1035 3 rfl ?_
  refine l_iconst X dL_law_1036 ?_
  refine l_iadd X dL_law_1037 ?_
  refine l_ld X (by omega) dL_law_1038 ?_
  refine l_aload_n X dL_law_1039 0 rfl ?_
  refine l_iload_n X dL_law_1040 3 rfl ?_
  refine l_iconst X dL_law_1041 ?_
  refine l_iadd X dL_law_1042 ?_
  refine l_ld X (by omega) dL_law_1043 ?_
  refine l_aload_n X dL_law_1044 0 rfl ?_
  refine l_iload_n X dL_law_1045 3 rfl ?_
  refine l_iconst X dL_law_1046 ?_
  refine l_iadd X dL_law_1047 ?_
  refine l_ld X (by omega) dL_law_1048 ?_
  refine l_callCI (st := []) X (fun H locs ls hP hS hl => l_runC (As := [kI (xs (i + 1).toNat).toInt, kI (xs (i + 2).toNat).toInt, kI (xs (i + 3).toNat).toInt]) X lk_L_126 rfl yo_X9_path rfl ⟨by decide, by decide⟩ (fun hj => ct_X9_path hj _ _ _ _ _ h) (Nat.le_of_ble_eq_true rfl) dL_law_1049 hP hS hl) (fun v0 w0 h => ?_)
  refine l_aload_n X dL_law_1052 2 rfl ?_
  refine l_aload_n X dL_law_1053 0 rfl ?_
  refine l_iload_n X dL_law_1054 3 rfl ?_
  refine l_iconst X dL_law_1055 ?_
  refine l_iadd X dL_law_1056 ?_
  refine l_ld X (by omega) dL_law_1057 ?_
  refine l_aload_n X dL_law_1058 0 rfl ?_
  refine l_iload_n X dL_law_1059 3 rfl ?_
  refine l_iconst X dL_law_1060 ?_
  refine l_iadd X dL_law_1061 ?_
  refine l_ld X (by omega) dL_law_1062 ?_
  refine l_aload_n X dL_law_1063 0 rfl ?_
  refine l_iload_n X dL_law_1064 3 rfl ?_
  refine l_iconst X dL_law_1065 ?_
  refine l_iadd X dL_law_1066 ?_
  refine l_ld X (by omega) dL_law_1067 ?_
  refine l_callMI (st := [kI v0]) X (fun H locs ls hP hS hl => l_runM (As := [kI (xs (i + 1).toNat).toInt, kI (xs (i + 2).toNat).toInt, kI (xs (i + 3).toNat).toInt]) X lk_L_129 rfl yo_X10_path rfl ⟨by decide, by decide⟩ (fun hj => ct_X10_path hj _ _ _ _ _ h) (Nat.le_of_ble_eq_true rfl) dL_law_1068 hP hS hl) (fun v1 w1 h => ?_)
  refine l_eq (tgt := 1439) X dL_law_1071 (by decide) h.1 ?_
  exact hn _ _ h.2
set_option maxRecDepth 100000 in
theorem law_c28 (X : lCx p s m meth c b L xs D cA aC aM sa) {Inv : Hp → Hp → Prop} (ho : op28 Inv) {i : Int} (hi : 0 ≤ i ∧ i + 6 ≤ (L : Int)) (hI : Inv zC zM) (hn : ∀ zC zM, Inv zC zM → lAt p l e s m b below meth c D cA aC aM 1439 [(0, .ref b), (1, .ref (aC 0)), (2, .ref (aM 0)), (3, kI i)] [] zC zM) : lAt p l e s m b below meth c D cA aC aM 1076 [(0, .ref b), (1, .ref (aC 0)), (2, .ref (aM 0)), (3, kI i)] [] zC zM := by
  have h := ho (xs (i + 1).toNat).toInt (xs (i + 2).toNat).toInt zC zM (kI_rg _) (kI_rg _) hI
  refine l_aload_n X dL_law_1076 1 rfl ?_
  refine l_aload_n X dL_law_1077 0 rfl ?_
  refine l_iload_n X dL_law_1078 3 rfl ?_
  refine l_iconst X dL_law_1079 ?_
  refine l_iadd X dL_law_1080 ?_
  refine l_ld X (by omega) dL_law_1081 ?_
  refine l_aload_n X dL_law_1082 0 rfl ?_
  refine l_iload_n X dL_law_1083 3 rfl ?_
  refine l_iconst X dL_law_1084 ?_
  refine l_iadd X dL_law_1085 ?_
  refine l_ld X (by omega) dL_law_1086 ?_
  refine l_callCL (st := []) X (fun H locs ls hP hS hl => l_runC (As := [kI (xs (i + 1).toNat).toInt, kI (xs (i + 2).toNat).toInt]) X lk_L_130 rfl yo_X9_relatives rfl ⟨by decide, by decide⟩ (fun hj => ct_X9_relatives hj _ _ _ _ h) (Nat.le_of_ble_eq_true rfl) dL_law_1087 hP hS hl) (fun v0 w0 h => ?_)
  refine l_aload_n X dL_law_1090 2 rfl ?_
  refine l_aload_n X dL_law_1091 0 rfl ?_
  refine l_iload_n X dL_law_1092 3 rfl ?_
  refine l_iconst X dL_law_1093 ?_
  refine l_iadd X dL_law_1094 ?_
  refine l_ld X (by omega) dL_law_1095 ?_
  refine l_aload_n X dL_law_1096 0 rfl ?_
  refine l_iload_n X dL_law_1097 3 rfl ?_
  refine l_iconst X dL_law_1098 ?_
  refine l_iadd X dL_law_1099 ?_
  refine l_ld X (by omega) dL_law_1100 ?_
  refine l_callML (st := [kL v0]) X (fun H locs ls hP hS hl => l_runM (As := [kI (xs (i + 1).toNat).toInt, kI (xs (i + 2).toNat).toInt]) X lk_L_134 rfl yo_X10_relatives rfl ⟨by decide, by decide⟩ (fun hj => ct_X10_relatives hj _ _ _ _ h) (Nat.le_of_ble_eq_true rfl) dL_law_1101 hP hS hl) (fun v1 w1 h => ?_)
  obtain ⟨e1, h⟩ := h
  subst e1
  refine l_lcmp X dL_law_1104 h.1 ?_
  refine l_if0 (tgt := 1439) X dL_law_1105 (by decide) ?_
  exact hn _ _ h.2
set_option maxRecDepth 100000 in
theorem law_c29 (X : lCx p s m meth c b L xs D cA aC aM sa) {Inv : Hp → Hp → Prop} (ho : op29 Inv) {i : Int} (hi : 0 ≤ i ∧ i + 6 ≤ (L : Int)) (hI : Inv zC zM) (hn : ∀ zC zM, Inv zC zM → lAt p l e s m b below meth c D cA aC aM 1439 [(0, .ref b), (1, .ref (aC 0)), (2, .ref (aM 0)), (3, kI i)] [] zC zM) : lAt p l e s m b below meth c D cA aC aM 1110 [(0, .ref b), (1, .ref (aC 0)), (2, .ref (aM 0)), (3, kI i)] [] zC zM := by
  have h := ho (xs (i + 1).toNat).toInt zC zM (kI_rg _) hI
  refine l_aload_n X dL_law_1110 1 rfl ?_
  refine l_aload_n X dL_law_1111 0 rfl ?_
  refine l_iload_n X dL_law_1112 3 rfl ?_
  refine l_iconst X dL_law_1113 ?_
  refine l_iadd X dL_law_1114 ?_
  refine l_ld X (by omega) dL_law_1115 ?_
  refine l_callCL (st := []) X (fun H locs ls hP hS hl => l_runC (As := [kI (xs (i + 1).toNat).toInt]) X lk_L_135 rfl yo_X9_ancestors rfl ⟨by decide, by decide⟩ (fun hj => ct_X9_ancestors hj _ _ _ h) (Nat.le_of_ble_eq_true rfl) dL_law_1116 hP hS hl) (fun v0 w0 h => ?_)
  refine l_aload_n X dL_law_1119 2 rfl ?_
  refine l_aload_n X dL_law_1120 0 rfl ?_
  refine l_iload_n X dL_law_1121 3 rfl ?_
  refine l_iconst X dL_law_1122 ?_
  refine l_iadd X dL_law_1123 ?_
  refine l_ld X (by omega) dL_law_1124 ?_
  refine l_callML (st := [kL v0]) X (fun H locs ls hP hS hl => l_runM (As := [kI (xs (i + 1).toNat).toInt]) X lk_L_139 rfl yo_X10_ancestors rfl ⟨by decide, by decide⟩ (fun hj => ct_X10_ancestors hj _ _ _ h) (Nat.le_of_ble_eq_true rfl) dL_law_1125 hP hS hl) (fun v1 w1 h => ?_)
  obtain ⟨e1, h⟩ := h
  subst e1
  refine l_lcmp X dL_law_1128 h.1 ?_
  refine l_if0 (tgt := 1439) X dL_law_1129 (by decide) ?_
  exact hn _ _ h.2
set_option maxRecDepth 100000 in
theorem law_c30 (X : lCx p s m meth c b L xs D cA aC aM sa) {Inv : Hp → Hp → Prop} (ho : op30 Inv) {i : Int} (hi : 0 ≤ i ∧ i + 6 ≤ (L : Int)) (hI : Inv zC zM) (hn : ∀ zC zM, Inv zC zM → lAt p l e s m b below meth c D cA aC aM 1439 [(0, .ref b), (1, .ref (aC 0)), (2, .ref (aM 0)), (3, kI i)] [] zC zM) : lAt p l e s m b below meth c D cA aC aM 1134 [(0, .ref b), (1, .ref (aC 0)), (2, .ref (aM 0)), (3, kI i)] [] zC zM := by
  have h := ho (xs (i + 1).toNat).toInt zC zM (kI_rg _) hI
  refine l_aload_n X dL_law_1134 1 rfl ?_
  refine l_aload_n X dL_law_1135 0 rfl ?_
  refine l_iload_n X dL_law_1136 3 rfl ?_
  refine l_iconst X dL_law_1137 ?_
  refine l_iadd X dL_law_1138 ?_
  refine l_ld X (by omega) dL_law_1139 ?_
  refine l_callCL (st := []) X (fun H locs ls hP hS hl => l_runC (As := [kI (xs (i + 1).toNat).toInt]) X lk_L_140 rfl yo_X9_descendants rfl ⟨by decide, by decide⟩ (fun hj => ct_X9_descendants hj _ _ _ h) (Nat.le_of_ble_eq_true rfl) dL_law_1140 hP hS hl) (fun v0 w0 h => ?_)
  refine l_aload_n X dL_law_1143 2 rfl ?_
  refine l_aload_n X dL_law_1144 0 rfl ?_
  refine l_iload_n X dL_law_1145 3 rfl ?_
  refine l_iconst X dL_law_1146 ?_
  refine l_iadd X dL_law_1147 ?_
  refine l_ld X (by omega) dL_law_1148 ?_
  refine l_callML (st := [kL v0]) X (fun H locs ls hP hS hl => l_runM (As := [kI (xs (i + 1).toNat).toInt]) X lk_L_143 rfl yo_X10_descendants rfl ⟨by decide, by decide⟩ (fun hj => ct_X10_descendants hj _ _ _ h) (Nat.le_of_ble_eq_true rfl) dL_law_1149 hP hS hl) (fun v1 w1 h => ?_)
  obtain ⟨e1, h⟩ := h
  subst e1
  refine l_lcmp X dL_law_1152 h.1 ?_
  refine l_if0 (tgt := 1439) X dL_law_1153 (by decide) ?_
  exact hn _ _ h.2
set_option maxRecDepth 100000 in
theorem law_c31 (X : lCx p s m meth c b L xs D cA aC aM sa) {Inv : Hp → Hp → Prop} (ho : op31 Inv) {i : Int} (hi : 0 ≤ i ∧ i + 6 ≤ (L : Int)) (hI : Inv zC zM) (hn : ∀ zC zM, Inv zC zM → lAt p l e s m b below meth c D cA aC aM 1439 [(0, .ref b), (1, .ref (aC 0)), (2, .ref (aM 0)), (3, kI i)] [] zC zM) : lAt p l e s m b below meth c D cA aC aM 1158 [(0, .ref b), (1, .ref (aC 0)), (2, .ref (aM 0)), (3, kI i)] [] zC zM := by
  have h := ho (xs (i + 1).toNat).toInt zC zM (kI_rg _) hI
  refine l_aload_n X dL_law_1158 1 rfl ?_
  refine l_aload_n X dL_law_1159 0 rfl ?_
  refine l_iload_n X dL_law_1160 3 rfl ?_
  refine l_iconst X dL_law_1161 ?_
  refine l_iadd X dL_law_1162 ?_
  refine l_ld X (by omega) dL_law_1163 ?_
  refine l_callCI (st := []) X (fun H locs ls hP hS hl => l_runC (As := [kI (xs (i + 1).toNat).toInt]) X lk_L_144 rfl yo_X9_order rfl ⟨by decide, by decide⟩ (fun hj => ct_X9_order hj _ _ _ h) (Nat.le_of_ble_eq_true rfl) dL_law_1164 hP hS hl) (fun v0 w0 h => ?_)
  refine l_aload_n X dL_law_1167 2 rfl ?_
  refine l_aload_n X dL_law_1168 0 rfl ?_
  refine l_iload_n X dL_law_1169 3 rfl ?_
  refine l_iconst X dL_law_1170 ?_
  refine l_iadd X dL_law_1171 ?_
  refine l_ld X (by omega) dL_law_1172 ?_
  refine l_callMI (st := [kI v0]) X (fun H locs ls hP hS hl => l_runM (As := [kI (xs (i + 1).toNat).toInt]) X lk_L_147 rfl yo_X10_order rfl ⟨by decide, by decide⟩ (fun hj => ct_X10_order hj _ _ _ h) (Nat.le_of_ble_eq_true rfl) dL_law_1173 hP hS hl) (fun v1 w1 h => ?_)
  refine l_eq (tgt := 1439) X dL_law_1176 (by decide) h.1 ?_
  exact hn _ _ h.2
set_option maxRecDepth 100000 in
theorem law_c32 (X : lCx p s m meth c b L xs D cA aC aM sa) {Inv : Hp → Hp → Prop} (ho : op32 Inv) {i : Int} (hi : 0 ≤ i ∧ i + 6 ≤ (L : Int)) (hI : Inv zC zM) (hn : ∀ zC zM, Inv zC zM → lAt p l e s m b below meth c D cA aC aM 1439 [(0, .ref b), (1, .ref (aC 0)), (2, .ref (aM 0)), (3, kI i)] [] zC zM) : lAt p l e s m b below meth c D cA aC aM 1181 [(0, .ref b), (1, .ref (aC 0)), (2, .ref (aM 0)), (3, kI i)] [] zC zM := by
  have h := ho (xs (i + 1).toNat).toInt (xs (i + 2).toNat).toInt zC zM (kI_rg _) (kI_rg _) hI
  refine l_aload_n X dL_law_1181 1 rfl ?_
  refine l_aload_n X dL_law_1182 0 rfl ?_
  refine l_iload_n X dL_law_1183 3 rfl ?_
  refine l_iconst X dL_law_1184 ?_
  refine l_iadd X dL_law_1185 ?_
  refine l_ld X (by omega) dL_law_1186 ?_
  refine l_aload_n X dL_law_1187 0 rfl ?_
  refine l_iload_n X dL_law_1188 3 rfl ?_
  refine l_iconst X dL_law_1189 ?_
  refine l_iadd X dL_law_1190 ?_
  refine l_ld X (by omega) dL_law_1191 ?_
  refine l_callCI (st := []) X (fun H locs ls hP hS hl => l_runC (As := [kI (xs (i + 1).toNat).toInt, kI (xs (i + 2).toNat).toInt]) X lk_L_148 rfl yo_X9_ahead rfl ⟨by decide, by decide⟩ (fun hj => ct_X9_ahead hj _ _ _ _ h) (Nat.le_of_ble_eq_true rfl) dL_law_1192 hP hS hl) (fun v0 w0 h => ?_)
  refine l_aload_n X dL_law_1195 2 rfl ?_
  refine l_aload_n X dL_law_1196 0 rfl ?_
  refine l_iload_n X dL_law_1197 3 rfl ?_
  refine l_iconst X dL_law_1198 ?_
  refine l_iadd X dL_law_1199 ?_
  refine l_ld X (by omega) dL_law_1200 ?_
  refine l_aload_n X dL_law_1201 0 rfl ?_
  refine l_iload_n X dL_law_1202 3 rfl ?_
  refine l_iconst X dL_law_1203 ?_
  refine l_iadd X dL_law_1204 ?_
  refine l_ld X (by omega) dL_law_1205 ?_
  refine l_callMI (st := [kI v0]) X (fun H locs ls hP hS hl => l_runM (As := [kI (xs (i + 1).toNat).toInt, kI (xs (i + 2).toNat).toInt]) X lk_L_151 rfl yo_X10_ahead rfl ⟨by decide, by decide⟩ (fun hj => ct_X10_ahead hj _ _ _ _ h) (Nat.le_of_ble_eq_true rfl) dL_law_1206 hP hS hl) (fun v1 w1 h => ?_)
  obtain ⟨e1, h⟩ := h
  subst e1
  refine l_eq (tgt := 1439) X dL_law_1209 (by decide) h.1 ?_
  exact hn _ _ h.2
set_option maxRecDepth 100000 in
theorem law_c33 (X : lCx p s m meth c b L xs D cA aC aM sa) {Inv : Hp → Hp → Prop} (ho : op33 Inv) {i : Int} (hi : 0 ≤ i ∧ i + 6 ≤ (L : Int)) (hI : Inv zC zM) (hn : ∀ zC zM, Inv zC zM → lAt p l e s m b below meth c D cA aC aM 1439 [(0, .ref b), (1, .ref (aC 0)), (2, .ref (aM 0)), (3, kI i)] [] zC zM) : lAt p l e s m b below meth c D cA aC aM 1214 [(0, .ref b), (1, .ref (aC 0)), (2, .ref (aM 0)), (3, kI i)] [] zC zM := by
  have h := ho (xs (i + 1).toNat).toInt zC zM (kI_rg _) hI
  refine l_aload_n X dL_law_1214 1 rfl ?_
  refine l_aload_n X dL_law_1215 0 rfl ?_
  refine l_iload_n X dL_law_1216 3 rfl ?_
  refine l_iconst X dL_law_1217 ?_
  refine l_iadd X dL_law_1218 ?_
  refine l_ld X (by omega) dL_law_1219 ?_
  refine l_callCI (st := []) X (fun H locs ls hP hS hl => l_runC (As := [kI (xs (i + 1).toNat).toInt]) X lk_L_152 rfl yo_X9_told rfl ⟨by decide, by decide⟩ (fun hj => ct_X9_told hj _ _ _ h) (Nat.le_of_ble_eq_true rfl) dL_law_1220 hP hS hl) (fun v0 w0 h => ?_)
  refine l_aload_n X dL_law_1223 2 rfl ?_
  refine l_aload_n X dL_law_1224 0 rfl ?_
  refine l_iload_n X dL_law_1225 3 rfl ?_
  refine l_iconst X dL_law_1226 ?_
  refine l_iadd X dL_law_1227 ?_
  refine l_ld X (by omega) dL_law_1228 ?_
  refine l_callMI (st := [kI v0]) X (fun H locs ls hP hS hl => l_runM (As := [kI (xs (i + 1).toNat).toInt]) X lk_L_155 rfl yo_X10_told_ rfl ⟨by decide, by decide⟩ (fun hj => ct_X10_told_ hj _ _ _ h) (Nat.le_of_ble_eq_true rfl) dL_law_1229 hP hS hl) (fun v1 w1 h => ?_)
  refine l_eq (tgt := 1439) X dL_law_1232 (by decide) h.1 ?_
  exact hn _ _ h.2
set_option maxRecDepth 100000 in
theorem law_c34 (X : lCx p s m meth c b L xs D cA aC aM sa) {Inv : Hp → Hp → Prop} (ho : op34 Inv) {i : Int} (hi : 0 ≤ i ∧ i + 6 ≤ (L : Int)) (hI : Inv zC zM) (hn : ∀ zC zM, Inv zC zM → lAt p l e s m b below meth c D cA aC aM 1439 [(0, .ref b), (1, .ref (aC 0)), (2, .ref (aM 0)), (3, kI i)] [] zC zM) : lAt p l e s m b below meth c D cA aC aM 1237 [(0, .ref b), (1, .ref (aC 0)), (2, .ref (aM 0)), (3, kI i)] [] zC zM := by
  have h := ho (xs (i + 1).toNat).toInt (xs (i + 2).toNat).toInt zC zM (kI_rg _) (kI_rg _) hI
  refine l_aload_n X dL_law_1237 1 rfl ?_
  refine l_aload_n X dL_law_1238 0 rfl ?_
  refine l_iload_n X dL_law_1239 3 rfl ?_
  refine l_iconst X dL_law_1240 ?_
  refine l_iadd X dL_law_1241 ?_
  refine l_ld X (by omega) dL_law_1242 ?_
  refine l_aload_n X dL_law_1243 0 rfl ?_
  refine l_iload_n X dL_law_1244 3 rfl ?_
  refine l_iconst X dL_law_1245 ?_
  refine l_iadd X dL_law_1246 ?_
  refine l_ld X (by omega) dL_law_1247 ?_
  refine l_callCI (st := []) X (fun H locs ls hP hS hl => l_runC (As := [kI (xs (i + 1).toNat).toInt, kI (xs (i + 2).toNat).toInt]) X lk_L_156 rfl yo_X9_list rfl ⟨by decide, by decide⟩ (fun hj => ct_X9_list hj _ _ _ _ h) (Nat.le_of_ble_eq_true rfl) dL_law_1248 hP hS hl) (fun v0 w0 h => ?_)
  refine l_aload_n X dL_law_1251 2 rfl ?_
  refine l_aload_n X dL_law_1252 0 rfl ?_
  refine l_iload_n X dL_law_1253 3 rfl ?_
  refine l_iconst X dL_law_1254 ?_
  refine l_iadd X dL_law_1255 ?_
  refine l_ld X (by omega) dL_law_1256 ?_
  refine l_aload_n X dL_law_1257 0 rfl ?_
  refine l_iload_n X dL_law_1258 3 rfl ?_
  refine l_iconst X dL_law_1259 ?_
  refine l_iadd X dL_law_1260 ?_
  refine l_ld X (by omega) dL_law_1261 ?_
  refine l_callMI (st := [kI v0]) X (fun H locs ls hP hS hl => l_runM (As := [kI (xs (i + 1).toNat).toInt, kI (xs (i + 2).toNat).toInt]) X lk_L_159 rfl yo_X10_list rfl ⟨by decide, by decide⟩ (fun hj => ct_X10_list hj _ _ _ _ h) (Nat.le_of_ble_eq_true rfl) dL_law_1262 hP hS hl) (fun v1 w1 h => ?_)
  refine l_eq (tgt := 1439) X dL_law_1265 (by decide) h.1 ?_
  exact hn _ _ h.2
set_option maxRecDepth 100000 in
theorem law_c35 (X : lCx p s m meth c b L xs D cA aC aM sa) {Inv : Hp → Hp → Prop} (ho : op35 Inv) {i : Int} (hi : 0 ≤ i ∧ i + 6 ≤ (L : Int)) (hI : Inv zC zM) (hn : ∀ zC zM, Inv zC zM → lAt p l e s m b below meth c D cA aC aM 1439 [(0, .ref b), (1, .ref (aC 0)), (2, .ref (aM 0)), (3, kI i)] [] zC zM) : lAt p l e s m b below meth c D cA aC aM 1270 [(0, .ref b), (1, .ref (aC 0)), (2, .ref (aM 0)), (3, kI i)] [] zC zM := by
  have h := ho (xs (i + 1).toNat).toInt (xs (i + 2).toNat).toInt (xs (i + 3).toNat).toInt zC zM (kI_rg _) (kI_rg _) (kI_rg _) hI
  refine l_aload_n X dL_law_1270 1 rfl ?_
  refine l_aload_n X dL_law_1271 0 rfl ?_
  refine l_iload_n X dL_law_1272 3 rfl ?_
  refine l_iconst X dL_law_1273 ?_
  refine l_iadd X dL_law_1274 ?_
  refine l_ld X (by omega) dL_law_1275 ?_
  refine l_aload_n X dL_law_1276 0 rfl ?_
  refine l_iload_n X dL_law_1277 3 rfl ?_
  refine l_iconst X dL_law_1278 ?_
  refine l_iadd X dL_law_1279 ?_
  refine l_ld X (by omega) dL_law_1280 ?_
  refine l_aload_n X dL_law_1281 0 rfl ?_
  refine l_iload_n X dL_law_1282 3 rfl ?_
  refine l_iconst X dL_law_1283 ?_
  refine l_iadd X dL_law_1284 ?_
  refine l_ld X (by omega) dL_law_1285 ?_
  refine l_callCI (st := []) X (fun H locs ls hP hS hl => l_runC (As := [kI (xs (i + 1).toNat).toInt, kI (xs (i + 2).toNat).toInt, kI (xs (i + 3).toNat).toInt]) X lk_L_160 rfl yo_X9_set rfl ⟨by decide, by decide⟩ (fun hj => ct_X9_set hj _ _ _ _ _ h) (Nat.le_of_ble_eq_true rfl) dL_law_1286 hP hS hl) (fun v0 w0 h => ?_)
  refine l_aload_n X dL_law_1289 2 rfl ?_
  refine l_aload_n X dL_law_1290 0 rfl ?_
  refine l_iload_n X dL_law_1291 3 rfl ?_
  refine l_iconst X dL_law_1292 ?_
  refine l_iadd X dL_law_1293 ?_
  refine l_ld X (by omega) dL_law_1294 ?_
  refine l_aload_n X dL_law_1295 0 rfl ?_
  refine l_iload_n X dL_law_1296 3 rfl ?_
  refine l_iconst X dL_law_1297 ?_
  refine l_iadd X dL_law_1298 ?_
  refine l_ld X (by omega) dL_law_1299 ?_
  refine l_aload_n X dL_law_1300 0 rfl ?_
  refine l_iload_n X dL_law_1301 3 rfl ?_
  refine l_iconst X dL_law_1302 ?_
  refine l_iadd X dL_law_1303 ?_
  refine l_ld X (by omega) dL_law_1304 ?_
  refine l_callMI (st := [kI v0]) X (fun H locs ls hP hS hl => l_runM (As := [kI (xs (i + 1).toNat).toInt, kI (xs (i + 2).toNat).toInt, kI (xs (i + 3).toNat).toInt]) X lk_L_163 rfl yo_X10_set rfl ⟨by decide, by decide⟩ (fun hj => ct_X10_set hj _ _ _ _ _ h) (Nat.le_of_ble_eq_true rfl) dL_law_1305 hP hS hl) (fun v1 w1 h => ?_)
  refine l_eq (tgt := 1439) X dL_law_1308 (by decide) h.1 ?_
  exact hn _ _ h.2
set_option maxRecDepth 100000 in
theorem law_c36 (X : lCx p s m meth c b L xs D cA aC aM sa) {Inv : Hp → Hp → Prop} (ho : op36 Inv) {i : Int} (hi : 0 ≤ i ∧ i + 6 ≤ (L : Int)) (hI : Inv zC zM) (hn : ∀ zC zM, Inv zC zM → lAt p l e s m b below meth c D cA aC aM 1439 [(0, .ref b), (1, .ref (aC 0)), (2, .ref (aM 0)), (3, kI i)] [] zC zM) : lAt p l e s m b below meth c D cA aC aM 1313 [(0, .ref b), (1, .ref (aC 0)), (2, .ref (aM 0)), (3, kI i)] [] zC zM := by
  have h := ho (xs (i + 1).toNat).toInt (xs (i + 2).toNat).toInt zC zM (kI_rg _) (kI_rg _) hI
  refine l_aload_n X dL_law_1313 1 rfl ?_
  refine l_aload_n X dL_law_1314 0 rfl ?_
  refine l_iload_n X dL_law_1315 3 rfl ?_
  refine l_iconst X dL_law_1316 ?_
  refine l_iadd X dL_law_1317 ?_
  refine l_ld X (by omega) dL_law_1318 ?_
  refine l_aload_n X dL_law_1319 0 rfl ?_
  refine l_iload_n X dL_law_1320 3 rfl ?_
  refine l_iconst X dL_law_1321 ?_
  refine l_iadd X dL_law_1322 ?_
  refine l_ld X (by omega) dL_law_1323 ?_
  refine l_callCL (st := []) X (fun H locs ls hP hS hl => l_runC (As := [kI (xs (i + 1).toNat).toInt, kI (xs (i + 2).toNat).toInt]) X lk_L_164 rfl yo_X9_get rfl ⟨by decide, by decide⟩ (fun hj => ct_X9_get hj _ _ _ _ h) (Nat.le_of_ble_eq_true rfl) dL_law_1324 hP hS hl) (fun v0 w0 h => ?_)
  obtain ⟨e0, h⟩ := h
  subst e0
  refine l_aload_n X dL_law_1327 2 rfl ?_
  refine l_aload_n X dL_law_1328 0 rfl ?_
  refine l_iload_n X dL_law_1329 3 rfl ?_
  refine l_iconst X dL_law_1330 ?_
  refine l_iadd X dL_law_1331 ?_
  refine l_ld X (by omega) dL_law_1332 ?_
  refine l_aload_n X dL_law_1333 0 rfl ?_
  refine l_iload_n X dL_law_1334 3 rfl ?_
  refine l_iconst X dL_law_1335 ?_
  refine l_iadd X dL_law_1336 ?_
  refine l_ld X (by omega) dL_law_1337 ?_
  refine l_callML (st := [kL v0]) X (fun H locs ls hP hS hl => l_runM (As := [kI (xs (i + 1).toNat).toInt, kI (xs (i + 2).toNat).toInt]) X lk_L_167 rfl yo_X10_get rfl ⟨by decide, by decide⟩ (fun hj => ct_X10_get hj _ _ _ _ h) (Nat.le_of_ble_eq_true rfl) dL_law_1338 hP hS hl) (fun v1 w1 h => ?_)
  obtain ⟨e1, h⟩ := h
  subst e1
  refine l_lcmp X dL_law_1341 h.1 ?_
  refine l_if0 (tgt := 1439) X dL_law_1342 (by decide) ?_
  exact hn _ _ h.2
set_option maxRecDepth 100000 in
theorem law_c37 (X : lCx p s m meth c b L xs D cA aC aM sa) {Inv : Hp → Hp → Prop} (ho : op37 Inv) {i : Int} (hi : 0 ≤ i ∧ i + 6 ≤ (L : Int)) (hI : Inv zC zM) (hn : ∀ zC zM, Inv zC zM → lAt p l e s m b below meth c D cA aC aM 1439 [(0, .ref b), (1, .ref (aC 0)), (2, .ref (aM 0)), (3, kI i)] [] zC zM) : lAt p l e s m b below meth c D cA aC aM 1347 [(0, .ref b), (1, .ref (aC 0)), (2, .ref (aM 0)), (3, kI i)] [] zC zM := by
  have h := ho (xs (i + 1).toNat).toInt (xs (i + 2).toNat).toInt zC zM (kI_rg _) (kI_rg _) hI
  refine l_aload_n X dL_law_1347 1 rfl ?_
  refine l_aload_n X dL_law_1348 0 rfl ?_
  refine l_iload_n X dL_law_1349 3 rfl ?_
  refine l_iconst X dL_law_1350 ?_
  refine l_iadd X dL_law_1351 ?_
  refine l_ld X (by omega) dL_law_1352 ?_
  refine l_aload_n X dL_law_1353 0 rfl ?_
  refine l_iload_n X dL_law_1354 3 rfl ?_
  refine l_iconst X dL_law_1355 ?_
  refine l_iadd X dL_law_1356 ?_
  refine l_ld X (by omega) dL_law_1357 ?_
  refine l_callCI (st := []) X (fun H locs ls hP hS hl => l_runC (As := [kI (xs (i + 1).toNat).toInt, kI (xs (i + 2).toNat).toInt]) X lk_L_168 rfl yo_X9_lay rfl ⟨by decide, by decide⟩ (fun hj => ct_X9_lay hj _ _ _ _ h) (Nat.le_of_ble_eq_true rfl) dL_law_1358 hP hS hl) (fun v0 w0 h => ?_)
  refine l_aload_n X dL_law_1361 2 rfl ?_
  refine l_aload_n X dL_law_1362 0 rfl ?_
  refine l_iload_n X dL_law_1363 3 rfl ?_
  refine l_iconst X dL_law_1364 ?_
  refine l_iadd X dL_law_1365 ?_
  refine l_ld X (by omega) dL_law_1366 ?_
  refine l_aload_n X dL_law_1367 0 rfl ?_
  refine l_iload_n X dL_law_1368 3 rfl ?_
  refine l_iconst X dL_law_1369 ?_
  refine l_iadd X dL_law_1370 ?_
  refine l_ld X (by omega) dL_law_1371 ?_
  refine l_callMI (st := [kI v0]) X (fun H locs ls hP hS hl => l_runM (As := [kI (xs (i + 1).toNat).toInt, kI (xs (i + 2).toNat).toInt]) X lk_L_171 rfl yo_X10_lay rfl ⟨by decide, by decide⟩ (fun hj => ct_X10_lay hj _ _ _ _ h) (Nat.le_of_ble_eq_true rfl) dL_law_1372 hP hS hl) (fun v1 w1 h => ?_)
  refine l_eq (tgt := 1439) X dL_law_1375 (by decide) h.1 ?_
  exact hn _ _ h.2
set_option maxRecDepth 100000 in
theorem law_c38 (X : lCx p s m meth c b L xs D cA aC aM sa) {Inv : Hp → Hp → Prop} (ho : op38 Inv) {i : Int} (hi : 0 ≤ i ∧ i + 6 ≤ (L : Int)) (hI : Inv zC zM) (hn : ∀ zC zM, Inv zC zM → lAt p l e s m b below meth c D cA aC aM 1439 [(0, .ref b), (1, .ref (aC 0)), (2, .ref (aM 0)), (3, kI i)] [] zC zM) : lAt p l e s m b below meth c D cA aC aM 1380 [(0, .ref b), (1, .ref (aC 0)), (2, .ref (aM 0)), (3, kI i)] [] zC zM := by
  have h := ho (xs (i + 1).toNat).toInt (xs (i + 2).toNat).toInt zC zM (kI_rg _) (kI_rg _) hI
  refine l_aload_n X dL_law_1380 1 rfl ?_
  refine l_aload_n X dL_law_1381 0 rfl ?_
  refine l_iload_n X dL_law_1382 3 rfl ?_
  refine l_iconst X dL_law_1383 ?_
  refine l_iadd X dL_law_1384 ?_
  refine l_ld X (by omega) dL_law_1385 ?_
  refine l_aload_n X dL_law_1386 0 rfl ?_
  refine l_iload_n X dL_law_1387 3 rfl ?_
  refine l_iconst X dL_law_1388 ?_
  refine l_iadd X dL_law_1389 ?_
  refine l_ld X (by omega) dL_law_1390 ?_
  refine l_callCI (st := []) X (fun H locs ls hP hS hl => l_runC (As := [kI (xs (i + 1).toNat).toInt, kI (xs (i + 2).toNat).toInt]) X lk_L_172 rfl yo_X9_judge rfl ⟨by decide, by decide⟩ (fun hj => ct_X9_judge hj _ _ _ _ h) (Nat.le_of_ble_eq_true rfl) dL_law_1391 hP hS hl) (fun v0 w0 h => ?_)
  refine l_aload_n X dL_law_1394 2 rfl ?_
  refine l_aload_n X dL_law_1395 0 rfl ?_
  refine l_iload_n X dL_law_1396 3 rfl ?_
  refine l_iconst X dL_law_1397 ?_
  refine l_iadd X dL_law_1398 ?_
  refine l_ld X (by omega) dL_law_1399 ?_
  refine l_aload_n X dL_law_1400 0 rfl ?_
  refine l_iload_n X dL_law_1401 3 rfl ?_
  refine l_iconst X dL_law_1402 ?_
  refine l_iadd X dL_law_1403 ?_
  refine l_ld X (by omega) dL_law_1404 ?_
  refine l_callMI (st := [kI v0]) X (fun H locs ls hP hS hl => l_runM (As := [kI (xs (i + 1).toNat).toInt, kI (xs (i + 2).toNat).toInt]) X lk_L_175 rfl yo_X10_judge rfl ⟨by decide, by decide⟩ (fun hj => ct_X10_judge hj _ _ _ _ h) (Nat.le_of_ble_eq_true rfl) dL_law_1405 hP hS hl) (fun v1 w1 h => ?_)
  refine l_eq (tgt := 1439) X dL_law_1408 (by decide) h.1 ?_
  exact hn _ _ h.2
set_option maxRecDepth 100000 in
theorem law_c39 (X : lCx p s m meth c b L xs D cA aC aM sa) {Inv : Hp → Hp → Prop} (ho : op39 Inv) {i : Int} (hi : 0 ≤ i ∧ i + 6 ≤ (L : Int)) (hI : Inv zC zM) (hn : ∀ zC zM, Inv zC zM → lAt p l e s m b below meth c D cA aC aM 1439 [(0, .ref b), (1, .ref (aC 0)), (2, .ref (aM 0)), (3, kI i)] [] zC zM) : lAt p l e s m b below meth c D cA aC aM 1413 [(0, .ref b), (1, .ref (aC 0)), (2, .ref (aM 0)), (3, kI i)] [] zC zM := by
  have h := ho  zC zM  hI
  refine l_aload_n X dL_law_1413 1 rfl ?_
  refine l_callCI (st := []) X (fun H locs ls hP hS hl => l_runC (As := []) X lk_L_176 rfl yo_X9_image rfl ⟨by decide, by decide⟩ (fun hj => ct_X9_image hj  _ _ h) (Nat.le_of_ble_eq_true rfl) dL_law_1414 hP hS hl) (fun v0 w0 h => ?_)
  refine l_aload_n X dL_law_1417 2 rfl ?_
  refine l_callMI (st := [kI v0]) X (fun H locs ls hP hS hl => l_runM (As := []) X lk_L_179 rfl yo_X10_image rfl ⟨by decide, by decide⟩ (fun hj => ct_X10_image hj  _ _ h) (Nat.le_of_ble_eq_true rfl) dL_law_1418 hP hS hl) (fun v1 w1 h => ?_)
  refine l_eq (tgt := 1439) X dL_law_1421 (by decide) h.1 ?_
  exact hn _ _ h.2
set_option maxRecDepth 100000 in
theorem law_c40 (X : lCx p s m meth c b L xs D cA aC aM sa) {Inv : Hp → Hp → Prop} (ho : op40 Inv) {i : Int} (hi : 0 ≤ i ∧ i + 6 ≤ (L : Int)) (hI : Inv zC zM) (hn : ∀ zC zM, Inv zC zM → lAt p l e s m b below meth c D cA aC aM 1439 [(0, .ref b), (1, .ref (aC 0)), (2, .ref (aM 0)), (3, kI i)] [] zC zM) : lAt p l e s m b below meth c D cA aC aM 1426 [(0, .ref b), (1, .ref (aC 0)), (2, .ref (aM 0)), (3, kI i)] [] zC zM := by
  have h := ho  zC zM  hI
  refine l_aload_n X dL_law_1426 1 rfl ?_
  refine l_callCI (st := []) X (fun H locs ls hP hS hl => l_runC (As := []) X lk_L_180 rfl yo_X9_undo rfl ⟨by decide, by decide⟩ (fun hj => ct_X9_undo hj  _ _ h) (Nat.le_of_ble_eq_true rfl) dL_law_1427 hP hS hl) (fun v0 w0 h => ?_)
  refine l_aload_n X dL_law_1430 2 rfl ?_
  refine l_callMI (st := [kI v0]) X (fun H locs ls hP hS hl => l_runM (As := []) X lk_L_183 rfl yo_X10_undo rfl ⟨by decide, by decide⟩ (fun hj => ct_X10_undo hj  _ _ h) (Nat.le_of_ble_eq_true rfl) dL_law_1431 hP hS hl) (fun v1 w1 h => ?_)
  refine l_eq (tgt := 1439) X dL_law_1434 (by decide) h.1 ?_
  exact hn _ _ h.2
theorem law_out (X : lCx p s m meth c b L xs D cA aC aM sa) {lv : List (Nat × Value)} : lAt p l e s m b below meth c D cA aC aM 1445 lv [] zC zM := by
  refine l_iconst X dL_law_1445 ?_
  intro H locs ls hP hS hl
  refine va_forget (fun q hq => hS.2.2 q hq) ?_
  refine W.widen (k := 600000) (n := 7302250) (Nat.le_of_ble_eq_true rfl) (Nat.le_of_ble_eq_true rfl) ?_
  exact lw_ret X.1 X.2.1 X.2.2.2.2.2.2.2.2.2.2.1 X.2.2.2.2.2.2.2.2.2.2.2.1 dL_law_1446
theorem law_end (X : lCx p s m meth c b L xs D cA aC aM sa) {i : Int} (h0 : 0 ≤ i) (h1 : (L : Int) < i ∧ i ≤ L + 6) : lAt p l e s m b below meth c D cA aC aM 18 [(0, .ref b), (1, .ref (aC 0)), (2, .ref (aM 0)), (3, kI i)] [] zC zM := by
  have hL : L ≤ 3072 := X.2.2.2.2.2.2.2.2.2.2.2.2
  refine l_iload_n X dL_law_18 3 rfl ?_
  refine l_aload_n X dL_law_19 0 rfl ?_
  refine l_len X dL_law_20 ?_
  refine l_bipush X dL_law_21 (by decide +kernel) ?_
  refine l_isub X dL_law_23 ?_
  exact l_gt (tgt := 1445) X dL_law_24 (by decide) ⟨by omega, by omega⟩ ⟨by omega, by omega⟩ (fun q => law_out X) (fun q => absurd (by omega) q)
set_option maxHeartbeats 4000000 in
set_option maxRecDepth 100000 in
theorem law_loop (X : lCx p s m meth c b L xs D cA aC aM sa) {Inv : Hp → Hp → Prop} (ho : Ops Inv) : ∀ (n : Nat) (i : Int) (zC zM : Hp), 0 ≤ i → (L : Int) < i + n → i ≤ L + 6 → Inv zC zM → lAt p l e s m b below meth c D cA aC aM 18 [(0, .ref b), (1, .ref (aC 0)), (2, .ref (aM 0)), (3, kI i)] [] zC zM
  | 0, i, zC, zM, h0, h1, h2, hI => law_end X h0 (by omega)
  | n + 1, i, zC, zM, h0, h1, h2, hI => by
    have hL : L ≤ 3072 := X.2.2.2.2.2.2.2.2.2.2.2.2
    refine l_iload_n X dL_law_18 3 rfl ?_
    refine l_aload_n X dL_law_19 0 rfl ?_
    refine l_len X dL_law_20 ?_
    refine l_bipush X dL_law_21 (by decide +kernel) ?_
    refine l_isub X dL_law_23 ?_
    refine l_gt (tgt := 1445) X dL_law_24 (by decide) ⟨by omega, by omega⟩ ⟨by omega, by omega⟩ (fun q => law_out X) (fun q => ?_)
    refine l_aload_n X dL_law_27 0 rfl ?_
    refine l_iload_n X dL_law_28 3 rfl ?_
    refine l_ld X (by omega) dL_law_29 ?_
    refine l_bipush X dL_law_30 (by decide +kernel) ?_
    refine l_iand X dL_law_32 ?_
    have hr : rg (iand (xs i.toNat).toInt 63) := kI_rg _
    have hn : ∀ zC zM, Inv zC zM → lAt p l e s m b below meth c D cA aC aM 1439 [(0, .ref b), (1, .ref (aC 0)), (2, .ref (aM 0)), (3, kI i)] [] zC zM := fun zC zM hI => by
      refine l_iinc (lv' := [(3, kI (i + 6)), (0, .ref b), (1, .ref (aC 0)), (2, .ref (aM 0))]) X dL_law_1439 3 rfl (by decide) rfl ?_
      refine l_goto (tgt := 18) X dL_law_1442 (by decide) ?_
      have hh := law_loop X ho n (i + 6) zC zM (by omega) (by omega) (by omega) hI
      exact fun H locs ls hP hS hl => hh H locs ls hP hS (lv_sub hl [1, 2, 3, 0] rfl)
    obtain ⟨o0, o1, o2, o3, o4, o5, o6, o7, o8, o9, o10, o11, o12, o13, o14, o15, o16, o17, o18, o19, o20, o21, o22, o23, o24, o25, o26, o27, o28, o29, o30, o31, o32, o33, o34, o35, o36, o37, o38, o39, o40⟩ := ho
    by_cases q0 : iand (xs i.toNat).toInt 63 = 0
    · refine l_swin (tgt := 212) X dL_law_33 hr q0 (by decide) (by decide) rfl (by decide) ?_
      exact law_c0 X o0 ⟨h0, by omega⟩ hI hn
    by_cases q1 : iand (xs i.toNat).toInt 63 = 1
    · refine l_swin (tgt := 235) X dL_law_33 hr q1 (by decide) (by decide) rfl (by decide) ?_
      exact law_c1 X o1 ⟨h0, by omega⟩ hI hn
    by_cases q2 : iand (xs i.toNat).toInt 63 = 2
    · refine l_swin (tgt := 248) X dL_law_33 hr q2 (by decide) (by decide) rfl (by decide) ?_
      exact law_c2 X o2 ⟨h0, by omega⟩ hI hn
    by_cases q3 : iand (xs i.toNat).toInt 63 = 3
    · refine l_swin (tgt := 271) X dL_law_33 hr q3 (by decide) (by decide) rfl (by decide) ?_
      exact law_c3 X o3 ⟨h0, by omega⟩ hI hn
    by_cases q4 : iand (xs i.toNat).toInt 63 = 4
    · refine l_swin (tgt := 294) X dL_law_33 hr q4 (by decide) (by decide) rfl (by decide) ?_
      exact law_c4 X o4 ⟨h0, by omega⟩ hI hn
    by_cases q5 : iand (xs i.toNat).toInt 63 = 5
    · refine l_swin (tgt := 327) X dL_law_33 hr q5 (by decide) (by decide) rfl (by decide) ?_
      exact law_c5 X o5 ⟨h0, by omega⟩ hI hn
    by_cases q6 : iand (xs i.toNat).toInt 63 = 6
    · refine l_swin (tgt := 350) X dL_law_33 hr q6 (by decide) (by decide) rfl (by decide) ?_
      exact law_c6 X o6 ⟨h0, by omega⟩ hI hn
    by_cases q7 : iand (xs i.toNat).toInt 63 = 7
    · refine l_swin (tgt := 383) X dL_law_33 hr q7 (by decide) (by decide) rfl (by decide) ?_
      exact law_c7 X o7 ⟨h0, by omega⟩ hI hn
    by_cases q8 : iand (xs i.toNat).toInt 63 = 8
    · refine l_swin (tgt := 416) X dL_law_33 hr q8 (by decide) (by decide) rfl (by decide) ?_
      exact law_c8 X o8 ⟨h0, by omega⟩ hI hn
    by_cases q9 : iand (xs i.toNat).toInt 63 = 9
    · refine l_swin (tgt := 439) X dL_law_33 hr q9 (by decide) (by decide) rfl (by decide) ?_
      exact law_c9 X o9 ⟨h0, by omega⟩ hI hn
    by_cases q10 : iand (xs i.toNat).toInt 63 = 10
    · refine l_swin (tgt := 472) X dL_law_33 hr q10 (by decide) (by decide) rfl (by decide) ?_
      exact law_c10 X o10 ⟨h0, by omega⟩ hI hn
    by_cases q11 : iand (xs i.toNat).toInt 63 = 11
    · refine l_swin (tgt := 495) X dL_law_33 hr q11 (by decide) (by decide) rfl (by decide) ?_
      exact law_c11 X o11 ⟨h0, by omega⟩ hI hn
    by_cases q12 : iand (xs i.toNat).toInt 63 = 12
    · refine l_swin (tgt := 518) X dL_law_33 hr q12 (by decide) (by decide) rfl (by decide) ?_
      exact law_c12 X o12 ⟨h0, by omega⟩ hI hn
    by_cases q13 : iand (xs i.toNat).toInt 63 = 13
    · refine l_swin (tgt := 551) X dL_law_33 hr q13 (by decide) (by decide) rfl (by decide) ?_
      exact law_c13 X o13 ⟨h0, by omega⟩ hI hn
    by_cases q14 : iand (xs i.toNat).toInt 63 = 14
    · refine l_swin (tgt := 594) X dL_law_33 hr q14 (by decide) (by decide) rfl (by decide) ?_
      exact law_c14 X o14 ⟨h0, by omega⟩ hI hn
    by_cases q15 : iand (xs i.toNat).toInt 63 = 15
    · refine l_swin (tgt := 627) X dL_law_33 hr q15 (by decide) (by decide) rfl (by decide) ?_
      exact law_c15 X o15 ⟨h0, by omega⟩ hI hn
    by_cases q16 : iand (xs i.toNat).toInt 63 = 16
    · refine l_swin (tgt := 690) X dL_law_33 hr q16 (by decide) (by decide) rfl (by decide) ?_
      exact law_c16 X o16 ⟨h0, by omega⟩ hI hn
    by_cases q17 : iand (xs i.toNat).toInt 63 = 17
    · refine l_swin (tgt := 733) X dL_law_33 hr q17 (by decide) (by decide) rfl (by decide) ?_
      exact law_c17 X o17 ⟨h0, by omega⟩ hI hn
    by_cases q18 : iand (xs i.toNat).toInt 63 = 18
    · refine l_swin (tgt := 756) X dL_law_33 hr q18 (by decide) (by decide) rfl (by decide) ?_
      exact law_c18 X o18 ⟨h0, by omega⟩ hI hn
    by_cases q19 : iand (xs i.toNat).toInt 63 = 19
    · refine l_swin (tgt := 799) X dL_law_33 hr q19 (by decide) (by decide) rfl (by decide) ?_
      exact law_c19 X o19 ⟨h0, by omega⟩ hI hn
    by_cases q20 : iand (xs i.toNat).toInt 63 = 20
    · refine l_swin (tgt := 822) X dL_law_33 hr q20 (by decide) (by decide) rfl (by decide) ?_
      exact law_c20 X o20 ⟨h0, by omega⟩ hI hn
    by_cases q21 : iand (xs i.toNat).toInt 63 = 21
    · refine l_swin (tgt := 855) X dL_law_33 hr q21 (by decide) (by decide) rfl (by decide) ?_
      exact law_c21 X o21 ⟨h0, by omega⟩ hI hn
    by_cases q22 : iand (xs i.toNat).toInt 63 = 22
    · refine l_swin (tgt := 888) X dL_law_33 hr q22 (by decide) (by decide) rfl (by decide) ?_
      exact law_c22 X o22 ⟨h0, by omega⟩ hI hn
    by_cases q23 : iand (xs i.toNat).toInt 63 = 23
    · refine l_swin (tgt := 901) X dL_law_33 hr q23 (by decide) (by decide) rfl (by decide) ?_
      exact law_c23 X o23 ⟨h0, by omega⟩ hI hn
    by_cases q24 : iand (xs i.toNat).toInt 63 = 24
    · refine l_swin (tgt := 934) X dL_law_33 hr q24 (by decide) (by decide) rfl (by decide) ?_
      exact law_c24 X o24 ⟨h0, by omega⟩ hI hn
    by_cases q25 : iand (xs i.toNat).toInt 63 = 25
    · refine l_swin (tgt := 967) X dL_law_33 hr q25 (by decide) (by decide) rfl (by decide) ?_
      exact law_c25 X o25 ⟨h0, by omega⟩ hI hn
    by_cases q26 : iand (xs i.toNat).toInt 63 = 26
    · refine l_swin (tgt := 1000) X dL_law_33 hr q26 (by decide) (by decide) rfl (by decide) ?_
      exact law_c26 X o26 ⟨h0, by omega⟩ hI hn
    by_cases q27 : iand (xs i.toNat).toInt 63 = 27
    · refine l_swin (tgt := 1033) X dL_law_33 hr q27 (by decide) (by decide) rfl (by decide) ?_
      exact law_c27 X o27 ⟨h0, by omega⟩ hI hn
    by_cases q28 : iand (xs i.toNat).toInt 63 = 28
    · refine l_swin (tgt := 1076) X dL_law_33 hr q28 (by decide) (by decide) rfl (by decide) ?_
      exact law_c28 X o28 ⟨h0, by omega⟩ hI hn
    by_cases q29 : iand (xs i.toNat).toInt 63 = 29
    · refine l_swin (tgt := 1110) X dL_law_33 hr q29 (by decide) (by decide) rfl (by decide) ?_
      exact law_c29 X o29 ⟨h0, by omega⟩ hI hn
    by_cases q30 : iand (xs i.toNat).toInt 63 = 30
    · refine l_swin (tgt := 1134) X dL_law_33 hr q30 (by decide) (by decide) rfl (by decide) ?_
      exact law_c30 X o30 ⟨h0, by omega⟩ hI hn
    by_cases q31 : iand (xs i.toNat).toInt 63 = 31
    · refine l_swin (tgt := 1158) X dL_law_33 hr q31 (by decide) (by decide) rfl (by decide) ?_
      exact law_c31 X o31 ⟨h0, by omega⟩ hI hn
    by_cases q32 : iand (xs i.toNat).toInt 63 = 32
    · refine l_swin (tgt := 1181) X dL_law_33 hr q32 (by decide) (by decide) rfl (by decide) ?_
      exact law_c32 X o32 ⟨h0, by omega⟩ hI hn
    by_cases q33 : iand (xs i.toNat).toInt 63 = 33
    · refine l_swin (tgt := 1214) X dL_law_33 hr q33 (by decide) (by decide) rfl (by decide) ?_
      exact law_c33 X o33 ⟨h0, by omega⟩ hI hn
    by_cases q34 : iand (xs i.toNat).toInt 63 = 34
    · refine l_swin (tgt := 1237) X dL_law_33 hr q34 (by decide) (by decide) rfl (by decide) ?_
      exact law_c34 X o34 ⟨h0, by omega⟩ hI hn
    by_cases q35 : iand (xs i.toNat).toInt 63 = 35
    · refine l_swin (tgt := 1270) X dL_law_33 hr q35 (by decide) (by decide) rfl (by decide) ?_
      exact law_c35 X o35 ⟨h0, by omega⟩ hI hn
    by_cases q36 : iand (xs i.toNat).toInt 63 = 36
    · refine l_swin (tgt := 1313) X dL_law_33 hr q36 (by decide) (by decide) rfl (by decide) ?_
      exact law_c36 X o36 ⟨h0, by omega⟩ hI hn
    by_cases q37 : iand (xs i.toNat).toInt 63 = 37
    · refine l_swin (tgt := 1347) X dL_law_33 hr q37 (by decide) (by decide) rfl (by decide) ?_
      exact law_c37 X o37 ⟨h0, by omega⟩ hI hn
    by_cases q38 : iand (xs i.toNat).toInt 63 = 38
    · refine l_swin (tgt := 1380) X dL_law_33 hr q38 (by decide) (by decide) rfl (by decide) ?_
      exact law_c38 X o38 ⟨h0, by omega⟩ hI hn
    by_cases q39 : iand (xs i.toNat).toInt 63 = 39
    · refine l_swin (tgt := 1413) X dL_law_33 hr q39 (by decide) (by decide) rfl (by decide) ?_
      exact law_c39 X o39 ⟨h0, by omega⟩ hI hn
    by_cases q40 : iand (xs i.toNat).toInt 63 = 40
    · refine l_swin (tgt := 1426) X dL_law_33 hr q40 (by decide) (by decide) rfl (by decide) ?_
      exact law_c40 X o40 ⟨h0, by omega⟩ hI hn
    refine l_swout (tgt := 1439) X dL_law_33 hr (by omega) (by decide) ?_
    exact hn zC zM hI
end LCS
