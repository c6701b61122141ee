/-! the law's start: texts, statics, classes, then both objects -/
theorem xn_RX9_13 : Cond.methodLinkNest RX9 13 yX0_init RX9 ∈ lw_tbl := tb1 _ (List.mem_of_getElem? (i := 29) (by decide +kernel))
theorem xn_RX9_35 : Cond.methodLinkNest RX9 35 yX4_init RX9 ∈ lw_tbl := tb1 _ (List.mem_of_getElem? (i := 112) (by decide +kernel))
theorem xn_RX9_42 : Cond.methodLinkNest RX9 42 yX8_init RX9 ∈ lw_tbl := tb1 _ (List.mem_of_getElem? (i := 149) (by decide +kernel))
theorem xn_RX8_17 : Cond.methodLinkNest RX8 17 yX1_init RX9 ∈ lw_tbl := tb1 _ (List.mem_of_getElem? (i := 155) (by decide +kernel))
theorem xn_RX8_24 : Cond.methodLinkNest RX8 24 yX3_init RX9 ∈ lw_tbl := tb1 _ (List.mem_of_getElem? (i := 209) (by decide +kernel))
theorem xn_RX9_56 : Cond.methodLinkNest RX9 56 yX7_init RX9 ∈ lw_tbl := tb2 _ (List.mem_of_getElem? (i := 45) (by decide +kernel))
theorem xn_RX9_63 : Cond.methodLinkNest RX9 63 yX2_init RX9 ∈ lw_tbl := tb2 _ (List.mem_of_getElem? (i := 72) (by decide +kernel))
theorem xo_b : Cond.arrayOver (.array .byte) ∈ lw_tbl := tb1 _ (List.mem_of_getElem? (i := 34) (by decide +kernel))
theorem xo_i : Cond.arrayOver (.array .int) ∈ lw_tbl := tb2 _ (List.mem_of_getElem? (i := 77) (by decide +kernel))
theorem xs_l : Cond.laysStatic "KinProver$Reader" "LETTERS" "[C" ∈ lw_tbl := tb2 _ (List.mem_of_getElem? (i := 197) (by decide +kernel))
theorem xs_c : Cond.laysStatic "java/lang/String" "COMPACT_STRINGS" "Z" ∈ lw_tbl := tb4 _ (List.mem_of_getElem? (i := 111) (by decide +kernel))
theorem xs_s : Cond.laysStatic "jdk/internal/util/Preconditions" "SIOOBE_FORMATTER" "Ljava/util/function/BiFunction;" ∈ lw_tbl := tb4 _ (List.mem_of_getElem? (i := 127) (by decide +kernel))
theorem xt_0 : Cond.stringRef "KinProver$Titles" 18 "half" ∈ lw_tbl := tb4 _ (List.mem_of_getElem? (i := 97) (by decide +kernel))
theorem xt_1 : Cond.stringRef "KinProver$Titles" 26 "self" ∈ lw_tbl := tb4 _ (List.mem_of_getElem? (i := 150) (by decide +kernel))
theorem xt_2 : Cond.stringRef "KinProver$Titles" 72 "grand" ∈ lw_tbl := tb4 _ (List.mem_of_getElem? (i := 154) (by decide +kernel))
theorem xt_3 : Cond.stringRef "KinProver$Titles" 34 "daughter" ∈ lw_tbl := tb4 _ (List.mem_of_getElem? (i := 155) (by decide +kernel))
theorem xt_4 : Cond.stringRef "KinProver$Titles" 36 "son" ∈ lw_tbl := tb4 _ (List.mem_of_getElem? (i := 156) (by decide +kernel))
theorem xt_5 : Cond.stringRef "KinProver$Titles" 38 "child" ∈ lw_tbl := tb4 _ (List.mem_of_getElem? (i := 157) (by decide +kernel))
theorem xt_6 : Cond.stringRef "KinProver$Titles" 44 "mother" ∈ lw_tbl := tb4 _ (List.mem_of_getElem? (i := 161) (by decide +kernel))
theorem xt_7 : Cond.stringRef "KinProver$Titles" 46 "father" ∈ lw_tbl := tb4 _ (List.mem_of_getElem? (i := 162) (by decide +kernel))
theorem xt_8 : Cond.stringRef "KinProver$Titles" 48 "parent" ∈ lw_tbl := tb4 _ (List.mem_of_getElem? (i := 163) (by decide +kernel))
theorem xt_9 : Cond.stringRef "KinProver$Titles" 50 "sister" ∈ lw_tbl := tb4 _ (List.mem_of_getElem? (i := 164) (by decide +kernel))
theorem xt_10 : Cond.stringRef "KinProver$Titles" 52 "brother" ∈ lw_tbl := tb4 _ (List.mem_of_getElem? (i := 165) (by decide +kernel))
theorem xt_11 : Cond.stringRef "KinProver$Titles" 54 "sibling" ∈ lw_tbl := tb4 _ (List.mem_of_getElem? (i := 166) (by decide +kernel))
theorem xt_12 : Cond.stringRef "KinProver$Titles" 56 "niece" ∈ lw_tbl := tb4 _ (List.mem_of_getElem? (i := 167) (by decide +kernel))
theorem xt_13 : Cond.stringRef "KinProver$Titles" 58 "nephew" ∈ lw_tbl := tb4 _ (List.mem_of_getElem? (i := 168) (by decide +kernel))
theorem xt_14 : Cond.stringRef "KinProver$Titles" 60 "nibling" ∈ lw_tbl := tb4 _ (List.mem_of_getElem? (i := 169) (by decide +kernel))
theorem xt_15 : Cond.stringRef "KinProver$Titles" 62 "aunt" ∈ lw_tbl := tb4 _ (List.mem_of_getElem? (i := 170) (by decide +kernel))
theorem xt_16 : Cond.stringRef "KinProver$Titles" 64 "uncle" ∈ lw_tbl := tb4 _ (List.mem_of_getElem? (i := 171) (by decide +kernel))
theorem xt_17 : Cond.stringRef "KinProver$Titles" 66 "auncle" ∈ lw_tbl := tb4 _ (List.mem_of_getElem? (i := 172) (by decide +kernel))
theorem xt_18 : Cond.stringRef "KinProver$Titles" 74 "cousin" ∈ lw_tbl := tb4 _ (List.mem_of_getElem? (i := 176) (by decide +kernel))
theorem xt_19 : Cond.stringRef "KinProver" 263 "wife" ∈ lw_tbl := tb4 _ (List.mem_of_getElem? (i := 187) (by decide +kernel))
theorem xt_20 : Cond.stringRef "KinProver" 265 "husband" ∈ lw_tbl := tb4 _ (List.mem_of_getElem? (i := 188) (by decide +kernel))
theorem xt_21 : Cond.stringRef "KinProver" 267 "spouse" ∈ lw_tbl := tb4 _ (List.mem_of_getElem? (i := 189) (by decide +kernel))
theorem xt_22 : Cond.stringRef "KinProver" 273 "none" ∈ lw_tbl := tb4 _ (List.mem_of_getElem? (i := 191) (by decide +kernel))
theorem xt_23 : Cond.stringRef "KinProverModel" 211 "bdmfwslo" ∈ lw_tbl := tb6 _ (List.mem_of_getElem? (i := 57) (by decide +kernel))
theorem xt_24 : Cond.stringRef "KinProverModel" 292 "wife" ∈ lw_tbl := tb6 _ (List.mem_of_getElem? (i := 213) (by decide +kernel))
theorem xt_25 : Cond.stringRef "KinProverModel" 294 "husband" ∈ lw_tbl := tb6 _ (List.mem_of_getElem? (i := 214) (by decide +kernel))
theorem xt_26 : Cond.stringRef "KinProverModel" 296 "spouse" ∈ lw_tbl := tb6 _ (List.mem_of_getElem? (i := 215) (by decide +kernel))
theorem xt_27 : Cond.stringRef "KinProverModel" 302 "none" ∈ lw_tbl := tb6 _ (List.mem_of_getElem? (i := 225) (by decide +kernel))
theorem xt_28 : Cond.stringRef "KinProverModel" 304 "half" ∈ lw_tbl := tb6 _ (List.mem_of_getElem? (i := 226) (by decide +kernel))
theorem xt_29 : Cond.stringRef "KinProverModel" 306 "self" ∈ lw_tbl := tb6 _ (List.mem_of_getElem? (i := 227) (by decide +kernel))
theorem xt_30 : Cond.stringRef "KinProverModel" 287 "grand" ∈ lw_tbl := tb6 _ (List.mem_of_getElem? (i := 232) (by decide +kernel))
theorem xt_31 : Cond.stringRef "KinProverModel" 311 "daughter" ∈ lw_tbl := tb6 _ (List.mem_of_getElem? (i := 233) (by decide +kernel))
theorem xt_32 : Cond.stringRef "KinProverModel" 313 "son" ∈ lw_tbl := tb6 _ (List.mem_of_getElem? (i := 234) (by decide +kernel))
theorem xt_33 : Cond.stringRef "KinProverModel" 315 "child" ∈ lw_tbl := tb6 _ (List.mem_of_getElem? (i := 235) (by decide +kernel))
theorem xt_34 : Cond.stringRef "KinProverModel" 317 "mother" ∈ lw_tbl := tb6 _ (List.mem_of_getElem? (i := 236) (by decide +kernel))
theorem xt_35 : Cond.stringRef "KinProverModel" 318 "father" ∈ lw_tbl := tb6 _ (List.mem_of_getElem? (i := 237) (by decide +kernel))
theorem xt_36 : Cond.stringRef "KinProverModel" 319 "parent" ∈ lw_tbl := tb6 _ (List.mem_of_getElem? (i := 238) (by decide +kernel))
theorem xt_37 : Cond.stringRef "KinProverModel" 321 "sister" ∈ lw_tbl := tb6 _ (List.mem_of_getElem? (i := 239) (by decide +kernel))
theorem xt_38 : Cond.stringRef "KinProverModel" 323 "brother" ∈ lw_tbl := tb7 _ (List.mem_of_getElem? (i := 0) (by decide +kernel))
theorem xt_39 : Cond.stringRef "KinProverModel" 325 "sibling" ∈ lw_tbl := tb7 _ (List.mem_of_getElem? (i := 1) (by decide +kernel))
theorem xt_40 : Cond.stringRef "KinProverModel" 327 "niece" ∈ lw_tbl := tb7 _ (List.mem_of_getElem? (i := 2) (by decide +kernel))
theorem xt_41 : Cond.stringRef "KinProverModel" 329 "nephew" ∈ lw_tbl := tb7 _ (List.mem_of_getElem? (i := 3) (by decide +kernel))
theorem xt_42 : Cond.stringRef "KinProverModel" 331 "nibling" ∈ lw_tbl := tb7 _ (List.mem_of_getElem? (i := 4) (by decide +kernel))
theorem xt_43 : Cond.stringRef "KinProverModel" 333 "aunt" ∈ lw_tbl := tb7 _ (List.mem_of_getElem? (i := 5) (by decide +kernel))
theorem xt_44 : Cond.stringRef "KinProverModel" 335 "uncle" ∈ lw_tbl := tb7 _ (List.mem_of_getElem? (i := 6) (by decide +kernel))
theorem xt_45 : Cond.stringRef "KinProverModel" 337 "auncle" ∈ lw_tbl := tb7 _ (List.mem_of_getElem? (i := 7) (by decide +kernel))
theorem xt_46 : Cond.stringRef "KinProverModel" 339 "cousin" ∈ lw_tbl := tb7 _ (List.mem_of_getElem? (i := 8) (by decide +kernel))
theorem xstr : ∀ k, k < kstrL.length → Cond.stringRef (kstrL.getD k ("", 0, "", [])).1 (kstrL.getD k ("", 0, "", [])).2.1 (kstrL.getD k ("", 0, "", [])).2.2.1 ∈ lw_tbl := by
  intro k hk
  have hk : k < 47 := hk
  match k, hk with
  | 0, _ => exact xt_0
  | 1, _ => exact xt_1
  | 2, _ => exact xt_2
  | 3, _ => exact xt_3
  | 4, _ => exact xt_4
  | 5, _ => exact xt_5
  | 6, _ => exact xt_6
  | 7, _ => exact xt_7
  | 8, _ => exact xt_8
  | 9, _ => exact xt_9
  | 10, _ => exact xt_10
  | 11, _ => exact xt_11
  | 12, _ => exact xt_12
  | 13, _ => exact xt_13
  | 14, _ => exact xt_14
  | 15, _ => exact xt_15
  | 16, _ => exact xt_16
  | 17, _ => exact xt_17
  | 18, _ => exact xt_18
  | 19, _ => exact xt_19
  | 20, _ => exact xt_20
  | 21, _ => exact xt_21
  | 22, _ => exact xt_22
  | 23, _ => exact xt_23
  | 24, _ => exact xt_24
  | 25, _ => exact xt_25
  | 26, _ => exact xt_26
  | 27, _ => exact xt_27
  | 28, _ => exact xt_28
  | 29, _ => exact xt_29
  | 30, _ => exact xt_30
  | 31, _ => exact xt_31
  | 32, _ => exact xt_32
  | 33, _ => exact xt_33
  | 34, _ => exact xt_34
  | 35, _ => exact xt_35
  | 36, _ => exact xt_36
  | 37, _ => exact xt_37
  | 38, _ => exact xt_38
  | 39, _ => exact xt_39
  | 40, _ => exact xt_40
  | 41, _ => exact xt_41
  | 42, _ => exact xt_42
  | 43, _ => exact xt_43
  | 44, _ => exact xt_44
  | 45, _ => exact xt_45
  | 46, _ => exact xt_46
  | k + 47, h => exact absurd h (by omega)
def strStart : List Nat := [18, 26, 34, 43, 55, 62, 71, 81, 91, 101, 111, 122, 133, 142, 152, 163, 171, 180, 190, 200, 208, 219, 229, 237, 249, 258, 270, 281, 290, 299, 308, 318, 331, 339, 349, 360, 371, 382, 393, 405, 417, 427, 438, 450, 459, 469, 480]
def strTm (k : Nat) : Term := .string (kstrL.getD k ("", 0, "", [])).1 (kstrL.getD k ("", 0, "", [])).2.1
def strAt (k i : Nat) : Cond := if i = 0 then .exactly (strTm k) "java/lang/String" else if i = 1 then .eq (.field (strTm k) "java/lang/String" "coder" "B") (.int 0) else if i = 2 then .arrayOf (.field (strTm k) "java/lang/String" "value" "[B") .byte else if i = 3 then .eq (.length (.field (strTm k) "java/lang/String" "value" "[B")) (.int (Int32.ofNat (kTx k).length)) else .eq (.elem (.field (strTm k) "java/lang/String" "value" "[B") (.int (Int32.ofNat (i - 4)))) (.int (Int32.ofInt ((kTx k).getD (i - 4) 0)))
set_option maxRecDepth 100000 in
theorem strFlat : ∀ k, k < 47 → ∀ i, i < 4 + (kTx k).length → (flatC narrow_1)[strStart.getD k 0 + i]? = some (strAt k i) := by decide +kernel
theorem letFlat : ∀ j, j < 8 → (flatC narrow_1)[5 + j]? = some (.eq (.elem (.static "KinProver$Reader" "LETTERS" "[C") (.int (Int32.ofNat j))) (.int (Int32.ofInt (kletL.getD j 0)))) := by decide +kernel
theorem strIn {args : Array Value} {s : State} (h : (Jvm.Cond.and given_1 narrow_1).before args s = true) {i : Nat} {w : Cond} (hw : (flatC narrow_1)[i]? = some w) : w.before args s = true := flat_of_before _ h w (List.mem_append_right _ (List.mem_of_getElem? hw))
theorem kStrOf {args : Array Value} {s : State} {tm : Term} {tx : List Int} {A : Nat → Prop} (hN : tx.length < 2 ^ 31) (hex : (Cond.exactly tm "java/lang/String").before args s = true) (hco : (Cond.eq (.field tm "java/lang/String" "coder" "B") (.int 0)).before args s = true) (har : (Cond.arrayOf (.field tm "java/lang/String" "value" "[B") .byte).before args s = true) (hle : (Cond.eq (.length (.field tm "java/lang/String" "value" "[B")) (.int (Int32.ofNat tx.length))).before args s = true) (hel : ∀ j : Nat, j < tx.length → (Cond.eq (.elem (.field tm "java/lang/String" "value" "[B") (.int (Int32.ofNat j))) (.int (Int32.ofInt (tx.getD j 0)))).before args s = true) (hA : ∀ a : Nat, a < s.heap.size → ¬ A a) : ∃ q : Nat × Nat, tm.eval args s none [] s = some (.ref q.1) ∧ kStr q.1 q.2 tx A s s.heap := by
  obtain ⟨a, c, cA, kA, q1, q2, q3, q4, q5, q6, -⟩ := Cond.exactly_spec (args := args) (first := s) (o := none) (s := s) (idx := []) (t := tm) (cls := "java/lang/String") hex
  obtain ⟨t, ht, hT⟩ := va_Tof (f := fun j => kI (tx.getD j 0)) (A := A) hN har (va_eqt hle) (fun j hj => va_eqt (hel j hj)) hA
  exact ⟨(a, t), q1, ⟨cA, q3, q5, by rw [q6]; exact q2, hA a (Array.getElem?_eq_some_iff.mp q3).1⟩, vk_OFof q1 (va_eqt hco) hA, vk_OFof q1 ht hA, hT⟩
theorem kEnv_start {args : Array Value} {s : State} (h : (Jvm.Cond.and given_1 narrow_1).before args s = true) (hts : ∀ w ∈ lw_tbl, w.before args s = true) : ∃ sa : Nat → Nat, kEnv (lA s) sa s s.heap := by
  have hA : ∀ a : Nat, a < s.heap.size → ¬ lA s a := fun a h1 h2 => by have : s.heap.size ≤ a := h2; omega
  have h0 : ∀ k, ∃ q : Nat × Nat, k < 47 → (strTm k).eval args s none [] s = some (.ref q.1) ∧ kStr q.1 q.2 (kTx k) (lA s) s s.heap := by
    intro k
    by_cases hk : k < 47
    · obtain ⟨q, h1, h2⟩ := kStrOf (args := args) (s := s) (tm := strTm k) (tx := kTx k) (A := lA s) (by have := kTx_len k hk; omega) (strIn h (strFlat k hk 0 (by omega))) (strIn h (strFlat k hk 1 (by omega))) (strIn h (strFlat k hk 2 (by omega))) (strIn h (strFlat k hk 3 (by omega))) (fun j hj => by
        have e := strIn h (strFlat k hk (4 + j) (by omega))
        have e2 : strAt k (4 + j) = .eq (.elem (.field (strTm k) "java/lang/String" "value" "[B") (.int (Int32.ofNat j))) (.int (Int32.ofInt ((kTx k).getD j 0))) := by
          unfold strAt
          rw [if_neg (by omega), if_neg (by omega), if_neg (by omega), if_neg (by omega), Nat.add_sub_cancel_left]
        rw [e2] at e
        exact e) hA
      exact ⟨q, fun _ => ⟨h1, h2⟩⟩
    · exact ⟨(0, 0), fun h => absurd h hk⟩
  obtain ⟨qf, hq⟩ := Classical.axiomOfChoice h0
  refine ⟨fun i => if i < 100 then (qf i).1 else (qf (i - 100)).2, fun k hk => ?_, ?_, ?_, ?_⟩
  · have hk : k < 47 := hk
    obtain ⟨h1, h2⟩ := hq k hk
    show kStr (if k < 100 then (qf k).1 else _) (if 100 + k < 100 then _ else (qf (100 + k - 100)).2) _ _ _ _ ∧ vk_R _ _ _ (if k < 100 then (qf k).1 else _) s
    rw [if_pos (by omega), if_neg (by omega), Nat.add_sub_cancel_left]
    exact ⟨h2, vk_R.of (hts _ (xstr k hk)) h1⟩
  · obtain ⟨t, ht, hT⟩ := va_Tof (ty := .char) (tm := .static "KinProver$Reader" "LETTERS" "[C") (N := 8) (f := fun j => kI (kletL.getD j 0)) (A := lA s) (by omega) (strIn h (i := 3) (by decide +kernel)) (va_eqt (strIn h (i := 4) (by decide +kernel))) (fun j hj => va_eqt (strIn h (letFlat j hj))) hA
    exact ⟨t, va_Zof (hts _ xs_l) (hts _ (GW_in _ mw4)) ht hA, hT⟩
  · exact va_Zof (hts _ xs_c) (hts _ (GW_in _ mw12)) (va_eqt (strIn h (i := 13) (by decide +kernel))) hA
  · exact va_Zqof (hts _ xs_s) (hts _ (GW_in _ mw14)) (strIn h (i := 14) (by decide +kernel)) hA
theorem k_arrOf {s : State} {A : Array Value} {ty : FieldType} (h : (Cond.arrayClass ty).before A s = true) (hno : ∀ C, ty ≠ .object C) : ∃ c : ClassId, ArrOfT s c ty ∧ va_RA s c ty := by
  obtain ⟨c, k, comp, h1, h2, h3⟩ := Cond.arrayClass_spec h
  refine ⟨c, fun n z => ⟨(fun q hq => by cases hq), k, h2, comp, h3⟩, ?_⟩
  cases ty <;> first | exact h1 | exact absurd rfl (hno _)
theorem k_arrOv {s : State} {ty : FieldType} (h : va_AOA ty s) : ∃ c : ClassId, ArrOfT s c (.array ty) ∧ va_RA s c (.array ty) := by
  obtain ⟨comp, c, k, h1, h2, h3, h4, h5⟩ := Jvm.Stand.arrayOver_specB h
  exact ⟨c, fun n z => ⟨(fun q hq => by cases hq), k, h3, comp, h4⟩, h5⟩
set_option maxHeartbeats 4000000 in
set_option maxRecDepth 100000 in
theorem whole_open {p : Program} {e : Env} {s : State} {m : MethodId} {below : List Frame} {meth : Method} {c : Code} (l : Launch) {b L : Nat} {xs : Nat → Int32} (hL : L ≤ 3072) (C0 : lw_At p s m meth c b L xs) {Inv : Hp → Hp → Prop} (ho : Ops Inv) (h0 : cal_X10_works zM0 (Inv zC0)) : W p l e room_1 s m #[Value.ref b] below meth c s.heap [] 0 0 (lw_Z below #[Value.ref b] s) (entryFrame m ([Value.ref b] : List Value).toArray 4) := by
  obtain ⟨hx, hb, hr, hml, hown, hts, hX, hbl, hlocks, hgv⟩ := id C0
  have hg : ∀ w ∈ GW, w.before #[Value.ref b] s = true := fun w hw => hts w (GW_in w hw)
  obtain ⟨sa, hE⟩ := kEnv_start hgv hts
  obtain ⟨c0, i0, k0⟩ := u_known (C := RX0) (T := TX0) (N := 11) (n := 11) hg inG0 (hg _ mw28)
  obtain ⟨c1, i1, k1⟩ := u_known (C := RX1) (T := TX1) (N := 13) (n := 13) hg inG1 (hg _ mw126)
  obtain ⟨c2, i2, k2⟩ := u_known (C := RX2) (T := TX2) (N := 2) (n := 2) hg inG2 (hg _ mw239)
  obtain ⟨c3, i3, k3⟩ := u_known (C := RX3) (T := TX3) (N := 12) (n := 12) hg inG3 (hg _ mw165)
  obtain ⟨c4, i4, k4⟩ := u_known (C := RX4) (T := TX4) (N := 8) (n := 8) hg inG4 (hg _ mw94)
  obtain ⟨c5, i5, k5⟩ := u_known (C := RX5) (T := TX5) (N := 2) (n := 2) hg inG5 (hg _ mw80)
  obtain ⟨c6, i6, k6⟩ := u_known (C := RX7) (T := TX7) (N := 5) (n := 5) hg inG7 (hg _ mw219)
  obtain ⟨c7, i7, k7⟩ := u_known (C := RX8) (T := TX8) (N := 7) (n := 7) hg inG8 (hg _ mw121)
  obtain ⟨c8, i8, k8⟩ := u_known (C := RX9) (T := TX9) (N := 14) (n := 14) hg inG9 (hg _ mw20)
  obtain ⟨c9, i9, k9⟩ := u_known (C := RX10) (T := TX10) (N := 31) (n := 31) hg inG10 (hg _ mw859)
  have hoB : va_AOA .byte s := va_AOA.of (hts _ xo_b)
  have hoI : va_AOA .int s := va_AOA.of (hts _ xo_i)
  obtain ⟨a0, ha0⟩ := k_arrOf (hg _ mw78) (fun C h => by cases h)
  obtain ⟨a1, ha1⟩ := k_arrOf (hg _ mw77) (fun C h => by cases h)
  obtain ⟨a2, ha2⟩ := k_arrOv hoB
  obtain ⟨a3, ha3⟩ := k_arrOv hoI
  obtain ⟨cA, e0, e1, e2, e3⟩ : ∃ cA : Nat → ClassId, cA 0 = a0 ∧ cA 1 = a1 ∧ cA 2 = a2 ∧ cA 3 = a3 := ⟨fun k => if k = 0 then a0 else if k = 1 then a1 else if k = 2 then a2 else a3, rfl, rfl, rfl, rfl⟩
  obtain ⟨D, hKc⟩ : ∃ D : va_G, ∀ (k : Nat) (q : vw_C), vwCl[k]? = some q → u_Kn s q.1 q.2.1 q.2.2 (D.1 k) (D.2 k) := by
    refine ⟨(fun k => if k = 0 then c0 else if k = 1 then c1 else if k = 2 then c2 else if k = 3 then c3 else if k = 4 then c4 else if k = 5 then c5 else if k = 6 then c6 else if k = 7 then c7 else if k = 8 then c8 else c9, fun k => if k = 0 then i0 else if k = 1 then i1 else if k = 2 then i2 else if k = 3 then i3 else if k = 4 then i4 else if k = 5 then i5 else if k = 6 then i6 else if k = 7 then i7 else if k = 8 then i8 else i9), ?_⟩
    intro k q hq
    match k, hq with
    | 0, hq => cases hq; exact k0
    | 1, hq => cases hq; exact k1
    | 2, hq => cases hq; exact k2
    | 3, hq => cases hq; exact k3
    | 4, hq => cases hq; exact k4
    | 5, hq => cases hq; exact k5
    | 6, hq => cases hq; exact k6
    | 7, hq => cases hq; exact k7
    | 8, hq => cases hq; exact k8
    | 9, hq => cases hq; exact k9
    | k + 10, hq => simp [vwCl] at hq
  have hK : va_K D vwCl (kTys cA) s := ⟨hKc, fun k q h => by
    match k, h with
    | 0, h => cases h; rw [e0]; exact ha0
    | 1, h => cases h; rw [e1]; exact ha1
    | 2, h => cases h; rw [e2]; exact ha2
    | 3, h => cases h; rw [e3]; exact ha3
    | k + 4, h => simp [kTys] at h⟩
  have hcX : cX s := ⟨hoB, hoI, va_Nw.of rfl (hts _ xn_RX9_13), va_Nw.of rfl (hts _ xn_RX9_35), va_Nw.of rfl (hts _ xn_RX9_42), va_Nw.of rfl (hts _ xn_RX8_17), va_Nw.of rfl (hts _ xn_RX8_24), va_Nw.of rfl (hts _ xn_RX9_56), va_Nw.of rfl (hts _ xn_RX9_63)⟩
  have hA : ∀ q : Nat, s.heap.size ≤ q → lA s q := fun _ h => h
  have hS : va_S (lA s) s.heap s.heap [] := va_S.rf
  have hP : va_P D vwCl [] s.heap := fun k q h => by simp at h
  have hD : va_D (lA s) [] := ⟨fun i j p q h => by simp at h, fun k q h => by simp at h⟩
  have hl := lv_entry ([.ref b]) (n := 4) (Nat.le_of_ble_eq_true rfl)
  rw [lg_entry_eq]
  generalize (lg_sl ([.ref b]) ++ List.replicate (4 - (lg_sl ([.ref b])).length) Slot.unset).toArray = ls at hl ⊢
  have hl : lv_has ls 4 [(0, .ref b)] := hl
  have good : ∀ {y : MethodName} {bytes : ByteArray} {ml : Nat}, Cond.code y bytes ml none ∈ GW → GoodIn GW (Cond.code y bytes ml none :: GW) := fun hc w hw => by
    rcases List.mem_cons.mp hw with rfl | hw
    · exact ⟨hc, good_of_word (GW_good _ hc)⟩
    · exact ⟨hw, good_of_word (GW_good _ hw)⟩
  refine va_new (Ts := GW) (ci := 8) (fs := [.null, .null, .int 0, .null, .null, .null, .null, .null, .int 0, .null, .int 0, .int 0, .null, .null]) (C := RX9) (T := TX9) (N := 14) hx hb hg inG9 tyX9 tyX9_ok hown (hg _ mw19) (hg _ mw20) (hg _ mw1) hK hP hD hS hA rfl (by decide +kernel) (Nat.le_of_ble_eq_true rfl) (Nat.le_of_ble_eq_true rfl) dL_law_0 (fun q1 H hP hD hS => ?_)
  refine lv_dup hx hb dL_law_3 rfl ?_
  have hF := c_lift hA hD hS
  refine va_callv (va_runI (As := []) (rest := [.ref q1]) (Ts := GW) ⟨hx, hb, hml, hown, hg⟩ (con_X9 (l := l) D cA q1 H.size) (cwI 0 hg (good mw23) rfl rfl rfl (hg _ mw1) (hg _ mw21) (hg _ mw22) rfl yi_X9 ⟨Nat.le_of_ble_eq_true rfl, Nat.le_of_ble_eq_true rfl⟩) ⟨c_blind, fun U hU hW => ⟨rfl, by rw [hU], by rw [hU]; exact hP, va_K.moved hW.alike hK, ⟨fun i j a b hi hj _ => by have h9 := (List.getElem?_eq_some_iff.mp hi).1; have h8 := (List.getElem?_eq_some_iff.mp hj).1; simp at h9 h8; omega, fun _ _ _ => trivial⟩, cX.warm hW hcX⟩⟩ rfl rfl hl.1 rfl (lv_room (Nat.le_of_ble_eq_true rfl)) dL_law_4 ⟨Nat.le_of_ble_eq_true rfl, Nat.le_of_ble_eq_true rfl⟩) hS (fun q _ h => hF q h) hF (fun aC t H1 locs ht hvm haC hB hz1 hk1 hS => ?_)
  rw [ht] at hB
  obtain ⟨hP, hD⟩ := c_grow hP hD hk1 hF hB.1 hB.2
  have hP : va_P D vwCl ([] ++ kW NC kdC cA aC zC0) H1 := hP
  have hD : va_D (lA s) ([] ++ kW NC kdC cA aC zC0) := hD
  generalize H1 = H at hP hS ⊢
  rw [← haC]
  refine lv_astore_n (lv' := [(1, .ref (aC 0)), (0, .ref b)]) hx hb dL_law_7 rfl hl (by decide) rfl (fun ls hl => ?_)
  refine va_new (Ts := GW) (ci := 9) (fs := [.null, .null, .int 0, .null, .null, .null, .int 0, .int 0, .int 0, .int 0, .null, .null, .null, .null, .null, .null, .null, .int 0, .int 0, .int 0, .int 0, .int 0, .null, .null, .null, .null, .null, .int 0, .int 0, .null, .null]) (C := RX10) (T := TX10) (N := 31) hx hb hg inG10 tyX10 tyX10_ok hown (hg _ mw858) (hg _ mw859) (hg _ mw10) hK hP hD hS hA rfl (by decide +kernel) (Nat.le_of_ble_eq_true rfl) (Nat.le_of_ble_eq_true rfl) dL_law_8 (fun q2 H hP hD hS => ?_)
  refine lv_dup hx hb dL_law_11 rfl ?_
  have hF := c_lift hA hD hS
  have hP2 : va_P D vwCl [(q2, blkM)] H := fun k q hq => by
    have h9 : k < 1 := (List.getElem?_eq_some_iff.mp hq).1
    rw [show k = 0 by omega] at hq
    cases hq
    exact hP NC _ (by rw [List.nil_append, List.getElem?_append_right (by simp [kW]), show NC - (kW NC kdC cA aC zC0).length = 0 by simp [kW]]; rfl)
  refine va_callv (va_runI (As := []) (rest := [.ref q2]) (Ts := GW) ⟨hx, hb, hml, hown, hg⟩ (con_X10 (l := l) D cA sa q2 H.size (Inv zC0) h0) (cwI 0 hg (good mw862) rfl rfl rfl (hg _ mw10) (hg _ mw860) (hg _ mw861) rfl yi_X10 ⟨Nat.le_of_ble_eq_true rfl, Nat.le_of_ble_eq_true rfl⟩) ⟨cm_blind, fun U hU hW => ⟨rfl, by rw [hU], by rw [hU]; exact hP2, va_K.moved hW.alike hK, ⟨fun i j a b hi hj _ => by have h9 := (List.getElem?_eq_some_iff.mp hi).1; have h8 := (List.getElem?_eq_some_iff.mp hj).1; simp at h9 h8; omega, fun _ _ _ => trivial⟩, cX.warm hW hcX, by rw [hU]; exact kEnv.moved hW ((kEnv.kept hE hS.2.1).narrow hF)⟩⟩ rfl rfl hl.1 rfl (lv_room (Nat.le_of_ble_eq_true rfl)) dL_law_12 ⟨Nat.le_of_ble_eq_true rfl, Nat.le_of_ble_eq_true rfl⟩) hS (fun q _ h => hF q h) hF (fun u t H1 locs ht hvm hu hB hz1 hk1 hS => ?_)
  obtain ⟨aM, zM⟩ := u
  rw [ht] at hB
  obtain ⟨hP, hD⟩ := c_grow hP hD hk1 hF hB.1 hB.2
  generalize H1 = H at hP hS ⊢
  have haM : aM 0 = q2 := hu.1
  rw [← haM]
  refine lv_astore_n (lv' := [(2, .ref (aM 0)), (1, .ref (aC 0)), (0, .ref b)]) hx hb dL_law_15 rfl hl (by decide) rfl (fun ls hl => ?_)
  refine lv_iconst (v := Int32.ofInt 0) hx hb dL_law_16 rfl ?_
  refine lv_istore_n (lv' := [(3, kI 0), (2, .ref (aM 0)), (1, .ref (aC 0)), (0, .ref b)]) hx hb dL_law_17 rfl hl (by decide) rfl (fun ls hl => ?_)
  have X : lCx p s m meth c b L xs D cA aC aM sa := ⟨hx, hb, hml, hown, hg, hK, ?hDD, hE, hX, hbl, hr, hlocks, hL⟩
  · refine W.widen (k := 163) (n := 10920) (Nat.le_of_ble_eq_true rfl) (Nat.le_of_ble_eq_true rfl) ?_
    exact law_loop (l := l) (e := e) (below := below) X ho (L + 1) 0 zC0 zM (Int.le_refl 0) (by omega) (by omega) hu.2 H _ ls hP hS (lv_sub hl [3, 2, 1, 0] rfl)
  case hDD =>
    have hD : va_D (lA s) (kW NC kdC cA aC zC0 ++ kW NM kdM cA aM zM) := hD
    have hn : ∀ (z1 z2 : Hp), (lWs cA aC aM z1 z2).map (fun q => q.1) = (List.range NC).map aC ++ (List.range NM).map aM := fun z1 z2 => by
      unfold lWs kW
      rw [List.map_append, List.map_map, List.map_map]
      rfl
    have back : ∀ (k : Nat) (q : Nat × va_E), (lWs cA aC aM zz0 zz0)[k]? = some q → ∃ q', (lWs cA aC aM zC0 zM)[k]? = some q' ∧ q'.1 = q.1 := fun k q hq => by
      have h9 : ((lWs cA aC aM zz0 zz0).map (fun q => q.1))[k]? = some q.1 := by rw [List.getElem?_map, hq]; rfl
      rw [hn, ← hn zC0 zM, List.getElem?_map] at h9
      cases hq2 : (lWs cA aC aM zC0 zM)[k]? with
      | none => rw [hq2] at h9; cases h9
      | some q' => rw [hq2] at h9; exact ⟨q', rfl, Option.some.inj h9⟩
    refine ⟨fun i j a b hi hj e => ?_, fun k q hq => ?_⟩
    · obtain ⟨a', h1, f1⟩ := back i a hi
      obtain ⟨b', h2, f2⟩ := back j b hj
      exact hD.1 i j a' b' h1 h2 (by rw [f1, f2, e])
    · obtain ⟨q', h1, f1⟩ := back k q hq
      rw [← f1]
      exact hD.2 k q' h1
