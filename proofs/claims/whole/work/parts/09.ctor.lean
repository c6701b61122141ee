/-! constructors: rows of the machine over a world that grows -/
def va_AOA (ty : FieldType) (U : State) : Prop := (Cond.arrayOver (.array ty)).before #[] U = true
theorem va_AOA.use {ty : FieldType} {A : Array Value} {U : State} (h : va_AOA ty U) : (Cond.arrayOver (.array ty)).before A U = true := Jvm.Stand.arrayOver_alikeB (Vm.Alike.refl _) h
theorem va_AOA.of {ty : FieldType} {A : Array Value} {U : State} (h : (Cond.arrayOver (.array ty)).before A U = true) : va_AOA ty U := Jvm.Stand.arrayOver_alikeB (Vm.Alike.refl _) h
theorem va_AOA.moved {ty : FieldType} {u U : State} (hvm : u.vm.Alike U.vm) (h : va_AOA ty u) : va_AOA ty U := Jvm.Stand.arrayOver_alikeB hvm h
/-! ===== BEGIN new T[n][m]: the outer array a place, the inner ones among the pooled ===== -/
/-- f, but v at every address of l -/
def vr_up {α : Type} (f : Nat → α) (l : List Nat) (v : α) : Nat → α := fun a => if a ∈ l then v else f a
theorem vr_up_in {α : Type} {f : Nat → α} {l : List Nat} {v : α} {a : Nat} (h : a ∈ l) : vr_up f l v a = v := if_pos h
theorem vr_up_ne {α : Type} {f : Nat → α} {l : List Nat} {v : α} {a : Nat} (h : a ∉ l) : vr_up f l v a = f a := if_neg h
theorem vr_rows {L l : List Nat} {f : Nat → va_E} {e : va_E} (h : ∀ a, a ∈ l → a ∉ L) : va_pl L f ++ l.map (fun a => (a, e)) = va_pl (L ++ l) (vr_up f l e) := by
  unfold va_pl
  rw [List.map_append]
  congr 1
  · apply List.map_congr_left
    intro a ha
    rw [vr_up_ne (fun q => h a q ha)]
  · apply List.map_congr_left
    intro a ha
    rw [vr_up_in ha]
theorem vr_lay {X rows : va_W} {x : Nat × va_E} {pl : va_W} {D : va_G} {cl : List vw_C} {H : Heap} (hP : va_P D cl (((X ++ pl) ++ [x]) ++ rows) H) : va_P D cl ((X ++ [x]) ++ (pl ++ rows)) H := by
  rw [List.append_assoc (X ++ pl)] at hP
  have h := va_P.swap hP
  rw [← List.append_assoc X] at h
  have h2 := va_P.swap h
  rw [List.append_assoc (X ++ [x])] at h2
  exact h2
theorem vr_layD {X rows : va_W} {x : Nat × va_E} {pl : va_W} {A : Nat → Prop} (hD : va_D A (((X ++ pl) ++ [x]) ++ rows)) : va_D A ((X ++ [x]) ++ (pl ++ rows)) := by
  rw [List.append_assoc (X ++ pl)] at hD
  have h := va_D.swap hD
  rw [← List.append_assoc X] at h
  have h2 := va_D.swap h
  rw [List.append_assoc (X ++ [x])] at h2
  exact h2
theorem vr_outer (c : ClassId) (N h0 : Nat) : ∀ i : Nat, Jvm.Free.Multi.outerC c N h0 i = arrV c N (fun j => va_rf (if j < i then some (h0 + 1 + j) else none))
  | 0 => by
    show ({ cls := c, slots := Array.replicate N .null, vm := .none } : Cell) = _
    rw [arrV_new]
    refine congrArg (arrV c N) (funext fun j => ?_)
    simp [va_rf]
  | i + 1 => by
    show (Jvm.Free.Multi.outerC c N h0 i).setSlot i (.ref (h0 + 1 + i)) = _
    rw [vr_outer c N h0 i, arrV_store]
    refine congrArg (arrV c N) (funext fun j => ?_)
    by_cases e : j = i
    · subst e
      simp [updV, va_rf]
    · by_cases h : j < i
      · simp [updV, e, h, Nat.lt_succ_of_lt h]
      · simp [updV, e, h, show ¬ j < i + 1 by omega]
section VGM
variable {p : Program} {l : Launch} {e : Env} {R : Room} {s : State} {m : MethodId} {args : Array Value} {below : List Frame} {meth : Method} {c : Code} {H : Heap} {locs : List Loc} {cells slots : Nat} {Q : State → Prop}
variable {cc : ByteArray} {pc : Nat} {ls : Array Slot} {rest : List Value} {D : va_G} {cl : List vw_C} {A : Nat → Prop} {a : Nat} {tys : List (ClassId × FieldType)} {ws : va_W} {H0 : Heap}
theorem va_mna {X : va_W} {L : List Nat} {f : Nat → va_E} {cc : ByteArray} (hexec : p.tables.exec = Jvm.exec) (hb : c.code = cc) {own : String} {index : Nat} {ty : FieldType} {cy : ClassId} (hown : s.vm.findClass own = some m.cls) (hclink : (Cond.classLink own index ("[" ++ (FieldType.array ty).toString)).before args s = true) (hover : va_AOA ty s) (harr : (Cond.arrayClass ty).before args s = true) (hcy : s.vm.findClass (FieldType.array ty).toString = some cy)
    (hK : va_K D cl tys s) (hP : va_P D cl (X ++ va_pl L f) H) (hD : va_D A (X ++ va_pl L f)) (hS : va_S A H0 H locs) (hA : ∀ q, H0.size ≤ q → A q) {n k : Int32} {N' K' : Nat} {z : vp_A} (hn : ¬ n < 0) (hk : ¬ k < 0) (hN : n.toNatClampNeg = N') (hM : k.toNatClampNeg = K')
    (hb1 : N' * 4 ≤ 536870912) (hb2 : K' * componentBytes ty ≤ 536870912) (hb3 : K' ≤ 536870912) (hdf : fits ty (defaultValue ty) = true) (hdd : (defaultValue ty).isDefault = true) (hcells : cells + (1 + N') ≤ R.cells) (hslots : slots + (N' + N' * K') ≤ R.slots) (hz : ∀ c : ClassId, Jvm.Free.Multi.innerC c K' (defaultValue ty) = vp_cell c z) (hdg : decode cc pc = .ok (.multianewarray index 2, 4))
    (kk : ∀ (q : Nat) (r : Nat → Nat) (cA : ClassId) (H1 : Heap), (∀ i j : Nat, i < N' → j < N' → r i = r j → i = j) → (∀ i : Nat, i < N' → r i ∉ L) → va_K D cl (tys ++ [(cA, .array ty)]) s →
      va_P D cl ((X ++ [(q, .inl (cA, N', .inr (.inr (.inr (.inr (fun i => if i < N' then some (r i) else none))))))]) ++ va_pl (L ++ (List.range N').map r) (vr_up f ((List.range N').map r) (.inl (cy, z)))) H1 → va_D A ((X ++ [(q, .inl (cA, N', .inr (.inr (.inr (.inr (fun i => if i < N' then some (r i) else none))))))]) ++ va_pl (L ++ (List.range N').map r) (vr_up f ((List.range N').map r) (.inl (cy, z)))) → va_S A H0 H1 locs →
      W p l e R s m args below meth c H1 locs (cells + 1 + N') (slots + N' + N' * K') Q (F0 m (pc + 4) ls (.ref q :: rest))) : W p l e R s m args below meth c H locs cells slots Q (F0 m pc ls (.int k :: .int n :: rest)) := by
  subst hN
  subst hM
  intro T hT Xs
  obtain ⟨vm₁, cA, comp, -, fA, fC, hO, -, X', step⟩ := Xs.multianewarray2F hexec hown hclink (va_AOA.use hover) harr (g := F0 m pc ls (.int k :: .int n :: rest)) rfl (by rw [hb]; exact hdg) rfl hn hk hb1 hb2 hb3 hdf hdd hcells hslots
  have ec : some cy = some comp := hcy.symm.trans fC
  cases ec
  generalize hF : Jvm.Free.Multi.fill (T.setVm vm₁) cA cy n.toNatClampNeg k.toNatClampNeg (defaultValue ty) n.toNatClampNeg = F at X' step
  have hTh : (T.setVm vm₁).heap = H := hT
  obtain ⟨f1, f2, -, -⟩ := Jvm.Free.Multi.fill_facts (T.setVm vm₁) cA cy n.toNatClampNeg k.toNatClampNeg (defaultValue ty) n.toNatClampNeg
  rw [hF, hTh] at f1 f2
  have hold : ∀ x : Nat, x < H.size → F.heap[x]? = H[x]? := fun x hx => by
    have := Jvm.Free.Multi.fill_old (T.setVm vm₁) cA cy n.toNatClampNeg k.toNatClampNeg (defaultValue ty) (a := x) (by rw [hTh]; exact hx) n.toNatClampNeg
    rw [hF, hTh] at this
    exact this
  have hrow : ∀ j : Nat, j < n.toNatClampNeg → F.heap[H.size + 1 + j]? = some (vp_cell cy z) := fun j hj => by
    have := Jvm.Free.Multi.fill_inner (T.setVm vm₁) cA cy n.toNatClampNeg k.toNatClampNeg (defaultValue ty) n.toNatClampNeg j hj
    rw [hF, hTh, hz] at this
    exact this
  have hout : Jvm.Free.Multi.outerC cA n.toNatClampNeg H.size n.toNatClampNeg = vp_cell cA (n.toNatClampNeg, .inr (.inr (.inr (.inr (fun i => if i < n.toNatClampNeg then some (H.size + 1 + i) else none))))) := by
    rw [vp_cell_q]
    exact vr_outer cA n.toNatClampNeg H.size n.toNatClampNeg
  rw [hout] at f2
  have hlt : ∀ a, a ∈ L → a < H.size := fun a ha => by
    obtain ⟨k9, hk9⟩ := va_pl_get (X := X) (f := f) ha
    exact (hP k9 _ hk9).lt
  have hnl : ∀ i : Nat, i < n.toNatClampNeg → H.size + 1 + i ∉ L := fun i _ h => by
    have := hlt _ h
    omega
  have hnm : ∀ a, a ∈ (List.range n.toNatClampNeg).map (fun i => H.size + 1 + i) → a ∉ L := fun a ha h => by
    obtain ⟨i, -, rfl⟩ := List.mem_map.mp ha
    have := hlt _ h
    omega
  have hP0 : va_P D cl (X ++ va_pl L f) F.heap := hP.kept (fun k9 x hx => hold x.1 ((hP k9 x hx).lt))
  have hP1 : va_P D cl ((X ++ va_pl L f) ++ [(H.size, .inl (cA, n.toNatClampNeg, .inr (.inr (.inr (.inr (fun i => if i < n.toNatClampNeg then some (H.size + 1 + i) else none))))))]) F.heap := hP0.app (fun k9 x hx => by
    have h0 : k9 < 1 := (List.getElem?_eq_some_iff.mp hx).1
    rw [show k9 = 0 by omega] at hx
    cases hx
    exact f2)
  have hP2 : va_P D cl (((X ++ va_pl L f) ++ [(H.size, .inl (cA, n.toNatClampNeg, .inr (.inr (.inr (.inr (fun i => if i < n.toNatClampNeg then some (H.size + 1 + i) else none))))))]) ++ ((List.range n.toNatClampNeg).map (fun i => H.size + 1 + i)).map (fun a => (a, .inl (cy, z)))) F.heap := hP1.app (fun k9 x hx => by
    obtain ⟨a, ha, rfl⟩ := List.mem_map.mp (List.mem_of_getElem? hx)
    obtain ⟨i, hi, rfl⟩ := List.mem_map.mp ha
    exact hrow i (List.mem_range.mp hi))
  have hD2 : va_D A (((X ++ va_pl L f) ++ [(H.size, .inl (cA, n.toNatClampNeg, .inr (.inr (.inr (.inr (fun i => if i < n.toNatClampNeg then some (H.size + 1 + i) else none))))))]) ++ ((List.range n.toNatClampNeg).map (fun i => H.size + 1 + i)).map (fun a => (a, .inl (cy, z)))) := by
    have hD1 := hD.push (e := .inl (cA, n.toNatClampNeg, .inr (.inr (.inr (.inr (fun i => if i < n.toNatClampNeg then some (H.size + 1 + i) else none)))))) hP rfl (hA _ hS.1)
    generalize hW1 : (X ++ va_pl L f) ++ [(H.size, .inl (cA, n.toNatClampNeg, .inr (.inr (.inr (.inr (fun i => if i < n.toNatClampNeg then some (H.size + 1 + i) else none))))))] = W1 at hD1 hP1 ⊢
    have hle : ∀ (k9 : Nat) (x : Nat × va_E), W1[k9]? = some x → x.1 ≤ H.size := fun k9 x hx => by
      rw [← hW1] at hx
      by_cases hl : k9 < (X ++ va_pl L f).length
      · rw [List.getElem?_append_left hl] at hx
        exact Nat.le_of_lt ((hP k9 x hx).lt)
      · rw [List.getElem?_append_right (by omega)] at hx
        have h0 : k9 - (X ++ va_pl L f).length < 1 := (List.getElem?_eq_some_iff.mp hx).1
        rw [show k9 - (X ++ va_pl L f).length = 0 by omega] at hx
        cases hx
        exact Nat.le_refl _
    have hr : ∀ (k9 : Nat) (x : Nat × va_E), (((List.range n.toNatClampNeg).map (fun i => H.size + 1 + i)).map (fun a => ((a, .inl (cy, z)) : Nat × va_E)))[k9]? = some x → x.1 = H.size + 1 + k9 := fun k9 x hx => by
      rw [List.getElem?_map, List.getElem?_map] at hx
      by_cases h9 : k9 < n.toNatClampNeg
      · rw [List.getElem?_range h9] at hx
        cases hx
        rfl
      · have hn0 : (List.range n.toNatClampNeg)[k9]? = none := List.getElem?_eq_none (by rw [List.length_range]; omega)
        rw [hn0] at hx
        cases hx
    refine ⟨fun i j x y hi hj hxy => ?_, fun k9 x hx => ?_⟩
    · by_cases h1 : i < W1.length <;> by_cases h2 : j < W1.length
      · rw [List.getElem?_append_left h1] at hi
        rw [List.getElem?_append_left h2] at hj
        exact hD1.1 i j x y hi hj hxy
      · rw [List.getElem?_append_left h1] at hi
        rw [List.getElem?_append_right (by omega)] at hj
        have := hle _ _ hi
        have := hr _ _ hj
        omega
      · rw [List.getElem?_append_right (by omega)] at hi
        rw [List.getElem?_append_left h2] at hj
        have := hle _ _ hj
        have := hr _ _ hi
        omega
      · rw [List.getElem?_append_right (by omega)] at hi hj
        have := hr _ _ hi
        have := hr _ _ hj
        omega
    · by_cases h1 : k9 < W1.length
      · rw [List.getElem?_append_left h1] at hx
        exact hD1.2 k9 x hx
      · rw [List.getElem?_append_right (by omega)] at hx
        have := hr _ _ hx
        exact hA _ (by have := hS.1; omega)
  have hAr : ArrOfT s cA (.array ty) := fun N9 z9 => by
    obtain ⟨-, k9, hk9, cm9, hkk9⟩ := (hO 0 0 0).1
    exact ⟨(fun q hq => by cases hq), k9, hk9, cm9, hkk9⟩
  have hK2 : va_K D cl (tys ++ [(cA, .array ty)]) s := ⟨hK.1, fun k9 x hx => by
    by_cases hl : k9 < tys.length
    · rw [List.getElem?_append_left hl] at hx
      exact hK.2 k9 x hx
    · rw [List.getElem?_append_right (by omega)] at hx
      have h0 : k9 - tys.length < 1 := (List.getElem?_eq_some_iff.mp hx).1
      rw [show k9 - tys.length = 0 by omega] at hx
      cases hx
      exact ⟨hAr, fA⟩⟩
  obtain ⟨t, a1, b1⟩ := kk H.size (fun i => H.size + 1 + i) cA F.heap (fun i j _ _ h => by have h9 : H.size + 1 + i = H.size + 1 + j := h; omega) hnl hK2 (by rw [← vr_rows hnm]; exact vr_lay hP2) (by rw [← vr_rows hnm]; exact vr_layD hD2) ⟨by rw [f1]; have := hS.1; omega, fun x h1 h2 => (hold x (Nat.lt_of_lt_of_le h1 hS.1)).trans (hS.2.1 x h1 h2), hS.2.2⟩ F rfl X'
  refine ⟨t, step t ?_, b1⟩
  have e : T.heap.size = H.size := by rw [hT]
  rw [e]
  exact a1
end VGM
/-! ===== END ===== -/
/-- what the constructors need of the tables beside the words: the nest's links, the classes of rows of rows -/
def cX (U : State) : Prop := va_AOA .byte U ∧ va_AOA .int U ∧ va_Nw (.methodLinkNest RX9 13 yX0_init RX9) U ∧ va_Nw (.methodLinkNest RX9 35 yX4_init RX9) U ∧ va_Nw (.methodLinkNest RX9 42 yX8_init RX9) U ∧ va_Nw (.methodLinkNest RX8 17 yX1_init RX9) U ∧ va_Nw (.methodLinkNest RX8 24 yX3_init RX9) U ∧ va_Nw (.methodLinkNest RX9 56 yX7_init RX9) U ∧ va_Nw (.methodLinkNest RX9 63 yX2_init RX9) U
theorem cX.warm {s U : State} (hW : s.WarmedH U.vm) (h : cX s) : cX U := by
  obtain ⟨h1, h2, h3, h4, h5, h6, h7, h8, h9⟩ := h
  exact ⟨h1.moved hW.alike, h2.moved hW.alike, va_Nw.warmM hW h3, va_Nw.warmM hW h4, va_Nw.warmM hW h5, va_Nw.warmM hW h6, va_Nw.warmM hW h7, va_Nw.warmM hW h8, va_Nw.warmM hW h9⟩
theorem cX.same {u U : State} (hv : u.vm = U.vm) (h : cX u) : cX U := by
  have ha : u.vm.Alike U.vm := by rw [hv]; exact Vm.Alike.refl _
  obtain ⟨h1, h2, h3, h4, h5, h6, h7, h8, h9⟩ := h
  exact ⟨h1.moved ha, h2.moved ha, va_Nw.same rfl hv h3, va_Nw.same rfl hv h4, va_Nw.same rfl hv h5, va_Nw.same rfl hv h6, va_Nw.same rfl hv h7, va_Nw.same rfl hv h8, va_Nw.same rfl hv h9⟩
/-- what a constructor's walk stands on -/
def cCx (p : Program) (s : State) (m : MethodId) (args : Array Value) (meth : Method) (c : Code) (cc : ByteArray) (own : String) (nL : Nat) (D : va_G) (cA : Nat → ClassId) (A : Nat → Prop) : Prop :=
  p.tables.exec = Jvm.exec ∧ c.code = cc ∧ c.maxLocals = nL ∧ s.vm.findClass own = some m.cls ∧ (∀ w ∈ GW, w.before args s = true) ∧ va_K D vwCl (kTys cA) s ∧ (∀ q, s.heap.size ≤ q → A q) ∧ meth.name = "<init>" ∧ cX s
/-- blocks of cells that have come, as the layout has them -/
def Blk (D : va_G) (cA : Nat → ClassId) (n : Nat) (kd : Nat → Nat × Nat × Nat) (ad : Nat → Nat) (z : Hp) (B : va_W) : Prop := B.map (fun q => q.1) = (List.range n).map ad ∧ ∀ H, va_P D vwCl B H → ∀ j, j < n → va_at D vwCl (ad j, kcell kd cA ad z j) H
/-- the references of a block stay in it -/
def Clo (n : Nat) (kd : Nat → Nat × Nat × Nat) : Prop := ∀ j, j < n → (kd j).1 < 4 ∧ ((kd j).1 = 0 → ∀ f, f < (kd j).2.2 → j + kro (kd j).2.1 f < n) ∧ ((kd j).1 = 3 → j + (kd j).2.1 < n)
def glue {α : Type} (m : Nat) (f g : Nat → α) : Nat → α := fun c => if c < m then f c else g (c - m)
theorem glue_l {α : Type} {m c : Nat} {f g : Nat → α} (h : c < m) : glue m f g c = f c := if_pos h
theorem glue_r {α : Type} {m c : Nat} {f g : Nat → α} : glue m f g (m + c) = g c := by unfold glue; rw [if_neg (by omega), Nat.add_sub_cancel_left]
theorem arrV_congr {cI : ClassId} {n : Nat} {f g : Nat → Value} (h : ∀ j, j < n → f j = g j) : arrV cI n f = arrV cI n g := by
  unfold arrV
  congr 1
  exact congrArg Array.ofFn (funext fun j => h j.val j.isLt)
theorem kat_eq {D : va_G} {cA : Nat → ClassId} {kd kd' : Nat → Nat × Nat × Nat} {ad ad' : Nat → Nat} {z z' : Hp} {c c' : Nat} {H : Heap} (hk : kd c = kd' c') (hz : ∀ j, z c j = z' c' j) (ha : ad c = ad' c') (h4 : (kd' c').1 < 4) (hr : (kd' c').1 = 0 → ∀ f, f < (kd' c').2.2 → ad (c + kro (kd' c').2.1 f) = ad' (c' + kro (kd' c').2.1 f)) (hq : (kd' c').1 = 3 → ∀ j, j < (kd' c').2.1 → ad (c + 1 + j) = ad' (c' + 1 + j)) (h : va_at D vwCl (ad' c', kcell kd' cA ad' z' c') H) : va_at D vwCl (ad c, kcell kd cA ad z c) H := by
  have hzz : (fun j => Int32.ofInt (z c j)) = (fun j => Int32.ofInt (z' c' j)) := funext fun j => by rw [hz]
  obtain ⟨t, a, b, hkk⟩ : ∃ t a b, kd' c' = (t, a, b) := ⟨_, _, _, rfl⟩
  rw [hkk] at h4 hr hq hk
  simp only at h4 hr hq
  rcases (show t = 0 ∨ t = 1 ∨ t = 2 ∨ t = 3 by omega) with rfl | rfl | rfl | rfl
  · rw [kcell_o hk, ha]
    rw [kcell_o hkk] at h
    have e : (List.range b).map (kval ad z c a) = (List.range b).map (kval ad' z' c' a) := by
      apply List.map_congr_left
      intro f hf
      have hf := List.mem_range.mp hf
      unfold kval
      rw [hz f, hr rfl f hf]
    rw [e]
    exact h
  · rw [kcell_i hk, ha, hzz]
    rw [kcell_i hkk] at h
    exact h
  · rw [kcell_b hk, ha, hzz]
    rw [kcell_b hkk] at h
    exact h
  · rw [kcell_r hk, ha]
    rw [kcell_r hkk] at h
    show H[ad' c']? = some (vp_cell _ _)
    have h1 : H[ad' c']? = some (vp_cell _ _) := h
    rw [h1]
    refine congrArg some (arrV_congr (f := fun j => va_rf (some (ad' (c' + 1 + j)))) (g := fun j => va_rf (some (ad (c + 1 + j)))) (fun j hj => ?_))
    show va_rf (some (ad' (c' + 1 + j))) = va_rf (some (ad (c + 1 + j)))
    rw [hq rfl j hj]
theorem Blk.app {D : va_G} {cA : Nat → ClassId} {m n : Nat} {kd kd' : Nat → Nat × Nat × Nat} {ad ad' : Nat → Nat} {z z' : Hp} {B B' : va_W} (h : Blk D cA m kd ad z B) (h' : Blk D cA n kd' ad' z' B') (hc : Clo m kd) (hc' : Clo n kd') : Blk D cA (m + n) (glue m kd kd') (glue m ad ad') (glue m z z') (B ++ B') := by
  constructor
  · rw [List.map_append, h.1, h'.1]
    rw [List.range_add, List.map_append, List.map_map]
    congr 1
    · apply List.map_congr_left
      intro j hj
      exact (glue_l (List.mem_range.mp hj)).symm
    · apply List.map_congr_left
      intro j hj
      exact (glue_r (f := ad) (g := ad')).symm
  · intro H hP j hj
    have hP1 : va_P D vwCl B H := fun k q hq => hP k q (by rw [List.getElem?_append_left (List.getElem?_eq_some_iff.mp hq).1]; exact hq)
    have hP2 : va_P D vwCl B' H := fun k q hq => hP (B.length + k) q (by rw [List.getElem?_append_right (by omega), Nat.add_sub_cancel_left]; exact hq)
    by_cases q : j < m
    · obtain ⟨c1, c2, c3⟩ := hc j q
      refine kat_eq (glue_l q) (fun i => by rw [glue_l q]) (glue_l q) c1 (fun e f hf => glue_l (c2 e f hf)) (fun e i hi => glue_l (by have := c3 e; omega)) (h.2 H hP1 j q)
    · obtain ⟨i, rfl⟩ : ∃ i, j = m + i := ⟨j - m, by omega⟩
      have hi : i < n := by omega
      obtain ⟨c1, c2, c3⟩ := hc' i hi
      refine kat_eq (c' := i) glue_r (fun k => by rw [glue_r]) glue_r c1 (fun e f hf => by rw [Nat.add_assoc]; exact glue_r) (fun e k hk => by rw [Nat.add_assoc m, Nat.add_assoc m]; exact glue_r) (h'.2 H hP2 i hi)
theorem blk_kW {D : va_G} {cA : Nat → ClassId} {n : Nat} {kd : Nat → Nat × Nat × Nat} {ad : Nat → Nat} {z : Hp} : Blk D cA n kd ad z (kW n kd cA ad z) := by
  constructor
  · unfold kW
    rw [List.map_map]
    rfl
  · intro H hP j hj
    exact hP j _ (kW_get hj)
theorem Blk.one {D : va_G} {cA : Nat → ClassId} {t n u q : Nat} {f : Nat → Int} {e : va_E} (ht : t < 2) (he : e = .inl (cA t, n, .inl (fun j => Int32.ofInt (f j)))) : Blk D cA 1 (fun _ => (t + 1, n, u)) (fun _ => q) (fun _ => f) [(q, e)] := by
  constructor
  · rfl
  · intro H hP j hj
    have h := hP 0 _ rfl
    rw [he] at h
    rcases (show t = 0 ∨ t = 1 by omega) with rfl | rfl
    · rw [kcell_i (n := n) (b := u) rfl]
      exact h
    · rw [kcell_b (n := n) (b := u) rfl]
      exact h
theorem Clo.one {t n u : Nat} (ht : t < 2) : Clo 1 (fun _ => (t + 1, n, u)) := fun j hj => ⟨by show t + 1 < 4; omega, fun e => absurd e (Nat.succ_ne_zero t), fun e => by have : t + 1 = 3 := e; omega⟩
/-- rows of rows as a block -/
theorem Blk.rows {D : va_G} {cA : Nat → ClassId} {u t n k q : Nat} {r : Nat → Nat} {cR cy : ClassId} {z : vp_A} (ht : t < 2) (hz : z = (k, .inl (fun _ => 0))) (hR : cR = cA u) (hy : cy = cA t) : Blk D cA (n + 1) (fun c => if c = 0 then (3, n, u) else (t + 1, k, 0)) (fun c => if c = 0 then q else r (c - 1)) (fun _ _ => 0) ((q, .inl (cR, n, .inr (.inr (.inr (.inr (fun i => if i < n then some (r i) else none)))))) :: (List.range n).map (fun i => (r i, .inl (cy, z)))) := by
  subst hR hy hz
  constructor
  · rw [List.map_cons, List.map_map, List.range_succ_eq_map, List.map_cons, List.map_map]
    rfl
  · intro H hP j hj
    by_cases q0 : j = 0
    · subst q0
      have h := hP 0 _ rfl
      rw [kcell_r (n := n) (b := u) rfl]
      have h1 : H[q]? = some (vp_cell (cA u) _) := h
      show H[q]? = some (vp_cell (cA u) _)
      rw [h1]
      refine congrArg some (arrV_congr (f := fun i => va_rf (if i < n then some (r i) else none)) (g := fun i => va_rf (some (if 0 + 1 + i = 0 then q else r (0 + 1 + i - 1)))) (fun i hi => ?_))
      show va_rf (if i < n then some (r i) else none) = va_rf (some (if 0 + 1 + i = 0 then q else r (0 + 1 + i - 1)))
      rw [if_pos hi, if_neg (by omega), show 0 + 1 + i - 1 = i by omega]
    · obtain ⟨i, rfl⟩ : ∃ i, j = i + 1 := ⟨j - 1, by omega⟩
      have hi : i < n := by omega
      have h := hP (i + 1) (r i, .inl (cA t, (k, .inl (fun _ => 0)))) (by rw [List.getElem?_cons_succ, List.getElem?_map, List.getElem?_range hi]; rfl)
      rcases (show t = 0 ∨ t = 1 by omega) with rfl | rfl
      · rw [kcell_i (n := k) (b := 0) (by rw [if_neg (by omega)])]
        show va_at D vwCl (if i + 1 = 0 then q else r (i + 1 - 1), _) H
        rw [if_neg (by omega), Nat.add_sub_cancel]
        exact h
      · rw [kcell_b (n := k) (b := 0) (by rw [if_neg (by omega)])]
        show va_at D vwCl (if i + 1 = 0 then q else r (i + 1 - 1), _) H
        rw [if_neg (by omega), Nat.add_sub_cancel]
        exact h
/-- the whole object out of its head and its blocks -/
theorem Blk.done {D : va_G} {cA : Nat → ClassId} {m ci n h0 N : Nat} {kd kdX : Nat → Nat × Nat × Nat} {ad : Nat → Nat} {z zX : Hp} {B : va_W} {fs : List Value} {H : Heap} {A : Nat → Prop} (hB : Blk D cA m kd ad z B) (hc : Clo m kd) (hN : N = m + 1) (hk0 : kdX 0 = (0, ci, n)) (hk : ∀ c, c < m → kdX (c + 1) = kd c) (hz : ∀ c, c < m → ∀ j, zX (c + 1) j = z c j) (hfs : fs = (List.range n).map (kval (fun c => if c = 0 then h0 else ad (c - 1)) zX 0 ci)) (hP : va_P D vwCl ((h0, .inr (ci, fs)) :: B) H) (hD : va_D A ((h0, .inr (ci, fs)) :: B)) :
    va_P D vwCl (kW N kdX cA (fun c => if c = 0 then h0 else ad (c - 1)) zX) H ∧ va_D A (kW N kdX cA (fun c => if c = 0 then h0 else ad (c - 1)) zX) := by
  subst hN
  have hPB : va_P D vwCl B H := fun k q hq => hP (k + 1) q hq
  have hmap : ((h0, .inr (ci, fs)) :: B).map (fun q => q.1) = (List.range (m + 1)).map (fun c => if c = 0 then h0 else ad (c - 1)) := by
    rw [List.map_cons, hB.1, List.range_succ_eq_map, List.map_cons, List.map_map]
    rfl
  have hadr : ∀ (W : va_W) (k : Nat) (q : Nat × va_E), W[k]? = some q → (W.map (fun q => q.1))[k]? = some q.1 := fun W k q h => by rw [List.getElem?_map, h]; rfl
  have hkW : (kW (m + 1) kdX cA (fun c => if c = 0 then h0 else ad (c - 1)) zX).map (fun q => q.1) = ((h0, .inr (ci, fs)) :: B).map (fun q => q.1) := by
    rw [hmap]
    exact (blk_kW (D := D)).1
  have back : ∀ (k : Nat) (q : Nat × va_E), (kW (m + 1) kdX cA (fun c => if c = 0 then h0 else ad (c - 1)) zX)[k]? = some q → ∃ q', ((h0, .inr (ci, fs)) :: B)[k]? = some q' ∧ q'.1 = q.1 := fun k q h => by
    have h1 := hadr _ k q h
    rw [hkW, List.getElem?_map] at h1
    cases hq : ((h0, .inr (ci, fs)) :: B)[k]? with
    | none => rw [hq] at h1; cases h1
    | some q' => rw [hq] at h1; exact ⟨q', rfl, Option.some.inj h1⟩
  refine ⟨fun k q hq => ?_, fun i j p q hi hj e => ?_, fun k q hq => ?_⟩
  · have hkl : k < m + 1 := by have := (List.getElem?_eq_some_iff.mp hq).1; simpa [kW] using this
    rw [kW_get hkl] at hq
    cases hq
    by_cases q0 : k = 0
    · subst q0
      rw [kcell_o hk0, ← hfs]
      exact hP 0 _ rfl
    · obtain ⟨i, rfl⟩ : ∃ i, k = i + 1 := ⟨k - 1, by omega⟩
      have hi : i < m := by omega
      obtain ⟨c1, c2, c3⟩ := hc i hi
      refine kat_eq (c' := i) (hk i hi) (hz i hi) (by show (if i + 1 = 0 then h0 else ad (i + 1 - 1)) = ad i; rw [if_neg (by omega), Nat.add_sub_cancel]) c1 (fun e f hf => ?_) (fun e f hf => ?_) (hB.2 H hPB i hi)
      · show (if i + 1 + kro (kd i).2.1 f = 0 then h0 else ad (i + 1 + kro (kd i).2.1 f - 1)) = _
        rw [if_neg (by omega)]
        congr 1
        omega
      · show (if i + 1 + 1 + f = 0 then h0 else ad (i + 1 + 1 + f - 1)) = _
        rw [if_neg (by omega)]
        congr 1
        omega
  · obtain ⟨p', hp', ep⟩ := back i p hi
    obtain ⟨q', hq', eq⟩ := back j q hj
    exact hD.1 i j p' q' hp' hq' (by rw [ep, eq, e])
  · obtain ⟨q', hq', eq⟩ := back k q hq
    rw [← eq]
    exact hD.2 k q' hq'
section CC
variable {p : Program} {l : Launch} {e : Env} {R : Room} {s : State} {m : MethodId} {args : Array Value} {below : List Frame} {meth : Method} {c : Code} {Q : State → Prop}
variable {cc : ByteArray} {own : String} {nL : Nat} {D : va_G} {cA : Nat → ClassId} {A : Nat → Prop}
variable {pc cn sn : Nat} {lv : List (Nat × Value)} {st : List Value} {ws : va_W}
def cAt (p : Program) (l : Launch) (e : Env) (R : Room) (s : State) (m : MethodId) (args : Array Value) (below : List Frame) (meth : Method) (c : Code) (Q : State → Prop) (nL : Nat) (D : va_G) (A : Nat → Prop) (pc : Nat) (lv : List (Nat × Value)) (st : List Value) (ws : va_W) (cn sn : Nat) : Prop :=
  ∀ (H : Heap) (locs : List Loc) (ls : Array Slot), va_P D vwCl ws H → va_D A ws → va_S A s.heap H locs → lv_has ls nL lv → W p l e R s m args below meth c H locs cn sn Q (F0 m pc ls st)
theorem c_sub {lv' : List (Nat × Value)} (ks : List Nat) (h : lv_pick lv ks = lv') (kk : cAt p l e R s m args below meth c Q nL D A pc lv' st ws cn sn) : cAt p l e R s m args below meth c Q nL D A pc lv st ws cn sn := fun H locs ls hP hD hS hl => kk H locs ls hP hD hS (lv_sub hl ks h)
theorem c_eq {ws' : va_W} (h : ws = ws') (kk : cAt p l e R s m args below meth c Q nL D A pc lv st ws' cn sn) : cAt p l e R s m args below meth c Q nL D A pc lv st ws cn sn := by rw [h]; exact kk
theorem c_cons {h : Nat × va_E} {B C : va_W} (kk : cAt p l e R s m args below meth c Q nL D A pc lv st (h :: (B ++ C)) cn sn) : cAt p l e R s m args below meth c Q nL D A pc lv st ((h :: B) ++ C) cn sn := kk
theorem c_aload_n (X : cCx p s m args meth c cc own nL D cA A) {k : Fin 4} {x : Nat} (d : decode cc pc = .ok (.aload_n k, 1)) (i : Nat) (hk : lv[i]? = some ((k : Nat), .ref x)) (kk : cAt p l e R s m args below meth c Q nL D A (pc + 1) lv (.ref x :: st) ws cn sn) : cAt p l e R s m args below meth c Q nL D A pc lv st ws cn sn := fun H locs ls hP hD hS hl => lv_aload_n X.1 X.2.1 d rfl (lv_at hl i hk) (kk H locs ls hP hD hS hl)
theorem c_iload_n (X : cCx p s m args meth c cc own nL D cA A) {k : Fin 4} {x : Int} (d : decode cc pc = .ok (.iload_n k, 1)) (i : Nat) (hk : lv[i]? = some ((k : Nat), kI x)) (kk : cAt p l e R s m args below meth c Q nL D A (pc + 1) lv (kI x :: st) ws cn sn) : cAt p l e R s m args below meth c Q nL D A pc lv st ws cn sn := fun H locs ls hP hD hS hl => lv_iload_n X.1 X.2.1 d rfl (lv_at hl i hk) (kk H locs ls hP hD hS hl)
theorem c_istore_n (X : cCx p s m args meth c cc own nL D cA A) {k : Fin 4} {x : Int} {lv' : List (Nat × Value)} (d : decode cc pc = .ok (.istore_n k, 1)) (hn : (k : Nat) < nL) (hl' : ((k : Nat), kI x) :: lv.filter (fun q => !(q.1 == (k : Nat)) && !(q.1 + 1 == (k : Nat) && q.2.category == 2)) = lv') (kk : cAt p l e R s m args below meth c Q nL D A (pc + 1) lv' st ws cn sn) : cAt p l e R s m args below meth c Q nL D A pc lv (kI x :: st) ws cn sn := fun H locs ls hP hD hS hl => lv_istore_n X.1 X.2.1 d rfl hl hn hl' (fun ls' hl2 => kk H locs ls' hP hD hS hl2)
theorem c_iinc (X : cCx p s m args meth c cc own nL D cA A) {k : Nat} {n x y : Int} {lv' : List (Nat × Value)} (d : decode cc pc = .ok (.iinc k n, 3)) (i : Nat) (hk : lv[i]? = some (k, kI x)) (hy : x + n = y) (hn : k < nL) (hl' : (k, kI y) :: lv.filter (fun q => !(q.1 == k) && !(q.1 + 1 == k && q.2.category == 2)) = lv') (kk : cAt p l e R s m args below meth c Q nL D A (pc + 3) lv' st ws cn sn) : cAt p l e R s m args below meth c Q nL D A pc lv st ws cn sn := fun H locs ls hP hD hS hl => lv_iinc X.1 X.2.1 d hl hk (by rw [kI_add, hy]) hn hl' (fun ls' hl2 => kk H locs ls' hP hD hS hl2)
theorem c_iconst (X : cCx p s m args meth c cc own nL D cA A) {n : Int} (d : decode cc pc = .ok (.iconst n, 1)) (kk : cAt p l e R s m args below meth c Q nL D A (pc + 1) lv (kI n :: st) ws cn sn) : cAt p l e R s m args below meth c Q nL D A pc lv st ws cn sn := fun H locs ls hP hD hS hl => lv_iconst X.1 X.2.1 d rfl (kk H locs ls hP hD hS hl)
theorem c_bipush (X : cCx p s m args meth c cc own nL D cA A) {n : Int} (d : decode cc pc = .ok (.bipush n, 2)) (hv : (Int8.ofInt n).toInt32 = Int32.ofInt n) (kk : cAt p l e R s m args below meth c Q nL D A (pc + 2) lv (kI n :: st) ws cn sn) : cAt p l e R s m args below meth c Q nL D A pc lv st ws cn sn := fun H locs ls hP hD hS hl => lv_bipush X.1 X.2.1 d hv (kk H locs ls hP hD hS hl)
theorem c_sipush (X : cCx p s m args meth c cc own nL D cA A) {n : Int} (d : decode cc pc = .ok (.sipush n, 3)) (hv : (Int16.ofInt n).toInt32 = Int32.ofInt n) (kk : cAt p l e R s m args below meth c Q nL D A (pc + 3) lv (kI n :: st) ws cn sn) : cAt p l e R s m args below meth c Q nL D A pc lv st ws cn sn := fun H locs ls hP hD hS hl => lv_sipush X.1 X.2.1 d hv (kk H locs ls hP hD hS hl)
theorem c_dup (X : cCx p s m args meth c cc own nL D cA A) {v : Value} (d : decode cc pc = .ok (.dup, 1)) (hv : v.category = 1) (kk : cAt p l e R s m args below meth c Q nL D A (pc + 1) lv (v :: v :: st) ws cn sn) : cAt p l e R s m args below meth c Q nL D A pc lv (v :: st) ws cn sn := fun H locs ls hP hD hS hl => lv_dup X.1 X.2.1 d hv (kk H locs ls hP hD hS hl)
theorem c_goto (X : cCx p s m args meth c cc own nL D cA A) {off : Int} {tgt : Nat} (d : decode cc pc = .ok (.goto off, 3)) (ht : (pc : Int) + off = (tgt : Int)) (kk : cAt p l e R s m args below meth c Q nL D A tgt lv st ws cn sn) : cAt p l e R s m args below meth c Q nL D A pc lv st ws cn sn := fun H locs ls hP hD hS hl => lv_goto X.1 X.2.1 d ht (kk H locs ls hP hD hS hl)
theorem c_ge_t (X : cCx p s m args meth c cc own nL D cA A) {x y : Int} {off : Int} {tgt : Nat} (d : decode cc pc = .ok (.if_icmp .ge off, 3)) (ht : (pc : Int) + off = (tgt : Int)) (hx : rg x) (hy : rg y) (h : y ≤ x) (kk : cAt p l e R s m args below meth c Q nL D A tgt lv st ws cn sn) : cAt p l e R s m args below meth c Q nL D A pc lv (kI y :: kI x :: st) ws cn sn := fun H locs ls hP hD hS hl => lv_icmp_ge X.1 X.2.1 d ht (fun _ => kk H locs ls hP hD hS hl) (fun q => absurd ((kI_le hy hx).mpr h) q)
theorem c_ge_f (X : cCx p s m args meth c cc own nL D cA A) {x y : Int} {off : Int} {tgt : Nat} (d : decode cc pc = .ok (.if_icmp .ge off, 3)) (ht : (pc : Int) + off = (tgt : Int)) (hx : rg x) (hy : rg y) (h : ¬ y ≤ x) (kk : cAt p l e R s m args below meth c Q nL D A (pc + 3) lv st ws cn sn) : cAt p l e R s m args below meth c Q nL D A pc lv (kI y :: kI x :: st) ws cn sn := fun H locs ls hP hD hS hl => lv_icmp_ge X.1 X.2.1 d ht (fun q => absurd ((kI_le hy hx).mp q) h) (fun _ => kk H locs ls hP hD hS hl)
theorem c_obj (X : cCx p s m args meth c cc own nL D cA A) {idx x : Nat} (w1 : Cond.methodLink own idx objectInit ∈ GW) (d : decode cc pc = .ok (.invokespecial idx, 3)) (hR : 1 ≤ R.frames ∧ 64 ≤ R.locals) (hst : (st.map fun v => v.category).sum ≤ 8) (kk : cAt p l e R s m args below meth c Q nL D A (pc + 3) lv st ws cn sn) : cAt p l e R s m args below meth c Q nL D A pc lv (.ref x :: st) ws cn sn := by
  intro H locs ls hP hD hS hl
  have ts := X.2.2.2.2.1
  refine W.objInit X.1 X.2.1 X.2.2.2.1 (ts _ w1) (ts _ mw25) (ts _ mw26) (g := F0 m pc ls (.ref x :: st)) rfl (by rw [X.2.2.1]; exact hl.1) rfl d hR.1 (by have h := lv_room (m := m) (pc := pc) (ls := ls) (rest := .ref x :: st) hst; omega) ?_
  exact kk H locs ls hP hD hS hl
theorem c_new (X : cCx p s m args meth c cc own nL D cA A) {idx ci n : Nat} {C : String} {T : u_T} {fs : List Value} (ty : Nat → FieldType) (hcl : vwCl[ci]? = some (C, T, n)) (hin : ∀ w ∈ u_ws C T n, w ∈ GW) (hty : ∀ k, k < n → parseFieldDescriptor (T k).2.2.1 = some (ty k)) (w1 : Cond.classLink own idx C ∈ GW) (w2 : Cond.instantiable C n ∈ GW) (w3 : Cond.initialized C ∈ GW) (hfs : ∀ j, j < n → defaultValue (ty j) = vp_V fs j) (hc : cn + 1 ≤ R.cells) (hs : sn + n ≤ R.slots) (d : decode cc pc = .ok (.new idx, 3)) (kk : ∀ q, cAt p l e R s m args below meth c Q nL D A (pc + 3) lv (.ref q :: st) (ws ++ [(q, .inr (ci, fs))]) (cn + 1) (sn + n)) : cAt p l e R s m args below meth c Q nL D A pc lv st ws cn sn := by
  intro H locs ls hP hD hS hl
  have ts := X.2.2.2.2.1
  exact va_new (Ts := GW) X.1 X.2.1 ts hin ty hty X.2.2.2.1 (ts _ w1) (ts _ w2) (ts _ w3) X.2.2.2.2.2.1 hP hD hS X.2.2.2.2.2.2.1 hcl hfs hc hs d (fun q H1 hP1 hD1 hS1 => kk q H1 locs ls hP1 hD1 hS1 hl)
theorem c_newi (X : cCx p s m args meth c cc own nL D cA A) {n : Nat} (hn : n ≤ 100000) (hc : cn + 1 ≤ R.cells) (hs : sn + n ≤ R.slots) (d : decode cc pc = .ok (.newarray .int, 2)) (kk : ∀ q, cAt p l e R s m args below meth c Q nL D A (pc + 2) lv (.ref q :: st) (ws ++ [(q, .inl (cA 0, n, .inl (fun _ => 0)))]) (cn + 1) (sn + n)) : cAt p l e R s m args below meth c Q nL D A pc lv (kI (n : Nat) :: st) ws cn sn := by
  intro H locs ls hP hD hS hl
  have ts := X.2.2.2.2.1
  have hK := X.2.2.2.2.2.1
  refine va_newa (atype := .int) (ty := .int) (a0 := (n, .inl (fun _ => 0))) X.1 X.2.1 (ts _ mw78) rfl hK hP hD hS X.2.2.2.2.2.2.1 (fun _ => rfl) (by rw [Int32.lt_iff_toInt_lt, kI_toInt ⟨by omega, by omega⟩, Int32.toInt_zero]; omega) (by rw [Int32.toNatClampNeg_ofInt_of_le (by omega) (by omega)]; omega) (by show n * 4 ≤ 536870912; omega) hc hs d (fun q c1 H1 hK1 hP1 hD1 hS1 => ?_)
  have h1 : s.vm.findClass _ = some c1 := (hK1.2 4 _ rfl).2
  have h0 : s.vm.findClass _ = some (cA 0) := (hK.2 0 _ rfl).2
  cases Option.some.inj (h1.symm.trans h0)
  exact kk q H1 locs ls hP1 hD1 hS1 hl
theorem c_newb (X : cCx p s m args meth c cc own nL D cA A) {n : Nat} (hn : n ≤ 100000) (hc : cn + 1 ≤ R.cells) (hs : sn + n ≤ R.slots) (d : decode cc pc = .ok (.newarray .byte, 2)) (kk : ∀ q, cAt p l e R s m args below meth c Q nL D A (pc + 2) lv (.ref q :: st) (ws ++ [(q, .inl (cA 1, n, .inl (fun _ => 0)))]) (cn + 1) (sn + n)) : cAt p l e R s m args below meth c Q nL D A pc lv (kI (n : Nat) :: st) ws cn sn := by
  intro H locs ls hP hD hS hl
  have ts := X.2.2.2.2.1
  have hK := X.2.2.2.2.2.1
  refine va_newa (atype := .byte) (ty := .byte) (a0 := (n, .inl (fun _ => 0))) X.1 X.2.1 (ts _ mw77) rfl hK hP hD hS X.2.2.2.2.2.2.1 (fun _ => rfl) (by rw [Int32.lt_iff_toInt_lt, kI_toInt ⟨by omega, by omega⟩, Int32.toInt_zero]; omega) (by rw [Int32.toNatClampNeg_ofInt_of_le (by omega) (by omega)]; omega) (by show n * 1 ≤ 536870912; omega) hc hs d (fun q c1 H1 hK1 hP1 hD1 hS1 => ?_)
  have h1 : s.vm.findClass _ = some c1 := (hK1.2 4 _ rfl).2
  have h0 : s.vm.findClass _ = some (cA 1) := (hK.2 1 _ rfl).2
  cases Option.some.inj (h1.symm.trans h0)
  exact kk q H1 locs ls hP1 hD1 hS1 hl
theorem c_mna (X : cCx p s m args meth c cc own nL D cA A) {idx t n k : Nat} {ty : FieldType} (ht : t < 2) (hty : ty = if t = 0 then .int else .byte) (w1 : Cond.classLink own idx ("[" ++ (FieldType.array ty).toString) ∈ GW) (hn : n ≤ 1000) (hk : k ≤ 1000) (hc : cn + (1 + n) ≤ R.cells) (hs : sn + (n + n * k) ≤ R.slots) (d : decode cc pc = .ok (.multianewarray idx 2, 4)) (kk : ∀ (q : Nat) (r : Nat → Nat), cAt p l e R s m args below meth c Q nL D A (pc + 4) lv (.ref q :: st) (ws ++ ((q, .inl (cA (3 - t), n, .inr (.inr (.inr (.inr (fun i => if i < n then some (r i) else none)))))) :: (List.range n).map (fun i => (r i, .inl (cA t, (k, .inl (fun _ => 0))))))) (cn + 1 + n) (sn + n + n * k)) : cAt p l e R s m args below meth c Q nL D A pc lv (kI (k : Nat) :: kI (n : Nat) :: st) ws cn sn := by
  intro H locs ls hP hD hS hl
  have ts := X.2.2.2.2.1
  have hK := X.2.2.2.2.2.1
  have hnk : ∀ x : Nat, x ≤ 1000 → ¬ Int32.ofInt (x : Nat) < 0 ∧ (Int32.ofInt (x : Nat)).toNatClampNeg = x := fun x hx => ⟨by rw [Int32.lt_iff_toInt_lt, kI_toInt ⟨by omega, by omega⟩, Int32.toInt_zero]; omega, by rw [Int32.toNatClampNeg_ofInt_of_le (by omega) (by omega)]; omega⟩
  have hX : cX s := X.2.2.2.2.2.2.2.2
  rcases (show t = 0 ∨ t = 1 by omega) with rfl | rfl
  · rw [if_pos rfl] at hty
    subst hty
    refine va_mna (X := ws) (L := []) (f := fun _ => .inr (0, [])) (z := (k, .inl (fun _ => 0))) (cy := cA 0) X.1 X.2.1 X.2.2.2.1 (ts _ w1) hX.2.1 (ts _ mw78) (hK.2 0 _ rfl).2 hK (by simpa [va_pl] using hP) (by simpa [va_pl] using hD) hS X.2.2.2.2.2.2.1 (hnk n hn).1 (hnk k hk).1 (hnk n hn).2 (hnk k hk).2 (by omega) (by show k * 4 ≤ 536870912; omega) (by omega) rfl rfl hc hs (fun _ => by show ({ cls := _, slots := Array.replicate k _, vm := .none } : Cell) = _; rw [arrV_new]; rfl) d (fun q r c1 H1 hr hL hK1 hP1 hD1 hS1 => ?_)
    have h1 : s.vm.findClass _ = some c1 := (hK1.2 4 _ rfl).2
    have h0 : s.vm.findClass _ = some (cA 3) := (hK.2 3 _ rfl).2
    cases Option.some.inj (h1.symm.trans h0)
    have e : ∀ w : va_W, (w ++ [(q, .inl (cA 3, n, .inr (.inr (.inr (.inr (fun i => if i < n then some (r i) else none))))))]) ++ va_pl ([] ++ (List.range n).map r) (vr_up (fun _ => .inr (0, [])) ((List.range n).map r) (.inl (cA 0, (k, .inl (fun _ => 0))))) = w ++ ((q, .inl (cA 3, n, .inr (.inr (.inr (.inr (fun i => if i < n then some (r i) else none)))))) :: (List.range n).map (fun i => (r i, .inl (cA 0, (k, .inl (fun _ => 0)))))) := fun w => by
      rw [List.append_assoc]
      congr 1
      show _ :: _ = _ :: _
      congr 1
      have e9 : ∀ g : Nat → va_E, (((List.range n).map r).map (fun a => (a, g a))) = (List.range n).map (fun i => (r i, g (r i))) := fun g => by rw [List.map_map]; rfl
      refine (e9 _).trans (List.map_congr_left (fun i hi => ?_))
      rw [vr_up_in (List.mem_map_of_mem hi)]
    rw [e] at hP1 hD1
    exact kk q r H1 locs ls hP1 hD1 hS1 hl
  · rw [if_neg (by decide)] at hty
    subst hty
    refine va_mna (X := ws) (L := []) (f := fun _ => .inr (0, [])) (z := (k, .inl (fun _ => 0))) (cy := cA 1) X.1 X.2.1 X.2.2.2.1 (ts _ w1) hX.1 (ts _ mw77) (hK.2 1 _ rfl).2 hK (by simpa [va_pl] using hP) (by simpa [va_pl] using hD) hS X.2.2.2.2.2.2.1 (hnk n hn).1 (hnk k hk).1 (hnk n hn).2 (hnk k hk).2 (by omega) (by show k * 1 ≤ 536870912; omega) (by omega) rfl rfl hc hs (fun _ => by show ({ cls := _, slots := Array.replicate k _, vm := .none } : Cell) = _; rw [arrV_new]; rfl) d (fun q r c1 H1 hr hL hK1 hP1 hD1 hS1 => ?_)
    have h1 : s.vm.findClass _ = some c1 := (hK1.2 4 _ rfl).2
    have h0 : s.vm.findClass _ = some (cA 2) := (hK.2 2 _ rfl).2
    cases Option.some.inj (h1.symm.trans h0)
    have e : ∀ w : va_W, (w ++ [(q, .inl (cA 2, n, .inr (.inr (.inr (.inr (fun i => if i < n then some (r i) else none))))))]) ++ va_pl ([] ++ (List.range n).map r) (vr_up (fun _ => .inr (0, [])) ((List.range n).map r) (.inl (cA 1, (k, .inl (fun _ => 0))))) = w ++ ((q, .inl (cA 2, n, .inr (.inr (.inr (.inr (fun i => if i < n then some (r i) else none)))))) :: (List.range n).map (fun i => (r i, .inl (cA 1, (k, .inl (fun _ => 0)))))) := fun w => by
      rw [List.append_assoc]
      congr 1
      show _ :: _ = _ :: _
      congr 1
      have e9 : ∀ g : Nat → va_E, (((List.range n).map r).map (fun a => (a, g a))) = (List.range n).map (fun i => (r i, g (r i))) := fun g => by rw [List.map_map]; rfl
      refine (e9 _).trans (List.map_congr_left (fun i hi => ?_))
      rw [vr_up_in (List.mem_map_of_mem hi)]
    rw [e] at hP1 hD1
    exact kk q r H1 locs ls hP1 hD1 hS1 hl
/-- a final field of the object at place 0 -/
def kFF (own : String) (idx ci j n : Nat) : Prop := ∃ (C : String) (T : u_T) (t0 : Nat → FieldType), vwCl[ci]? = some (C, T, n) ∧ j < n ∧ (∀ w ∈ u_ws C T n, w ∈ GW) ∧ Cond.fieldLink own idx (T j).1 (T j).2.1 (T j).2.2.1 ∈ GW ∧ (∀ k, k < n → parseFieldDescriptor (T k).2.2.1 = some (t0 k)) ∧ (∀ a, a < n → ∀ b, b < n → a ≠ b → (T a).2.1 ≠ (T b).2.1) ∧ (T j).2.2.2 = true ∧ (T j).1 = own ∧ (∀ q : Nat, narrow (t0 j) (.ref q) = .ref q ∧ fits (t0 j) (.ref q) = true)
theorem c_putF (X : cCx p s m args meth c cc own nL D cA A) {idx ci j n x q : Nat} {fs fs' : List Value} {B : va_W} (F : kFF own idx ci j n) (hl0 : j < fs.length) (hfs : fs.set j (.ref q) = fs') (d : decode cc pc = .ok (.putfield idx, 3)) (kk : cAt p l e R s m args below meth c Q nL D A (pc + 3) lv st ((x, .inr (ci, fs')) :: B) cn sn) : cAt p l e R s m args below meth c Q nL D A pc lv (.ref q :: .ref x :: st) ((x, .inr (ci, fs)) :: B) cn sn := by
  obtain ⟨C, T, t0, h1, h2, h3, h4, h5, h6, h7, h8, h9⟩ := F
  obtain ⟨x1, x2, x3, x4, x5, x6, x7, x8, x9⟩ := X
  intro H locs ls hP hD hS hl
  refine va_putF (Ts := GW) x1 x2 x5 h3 t0 h5 h6 x4 x6 hP hD hS 0 rfl h1 j h2 (x5 _ h4) (fun _ h => h) h7 x8 h8 (h5 j h2) (h9 q).1 (h9 q).2 hl0 d (fun H1 locs1 hP1 hD1 hS1 => ?_)
  rw [hfs] at hP1 hD1
  exact kk H1 locs1 ls hP1 hD1 hS1 hl
/-- an int into the row at place i of the world -/
theorem c_iast (X : cCx p s m args meth c cc own nL D cA A) {n q : Nat} {i x : Int} {f : Nat → Int32} {ws' : va_W} (k : Nat) (hw : ws[k]? = some (q, .inl (cA 0, n, .inl f))) (hn : n ≤ 2147483648) (hi : inb i n) (hw' : ws.set k (q, .inl (cA 0, n, .inl (upd f i.toNat (Int32.ofInt x)))) = ws') (d : decode cc pc = .ok (.iastore, 1)) (kk : cAt p l e R s m args below meth c Q nL D A (pc + 1) lv st ws' cn sn) : cAt p l e R s m args below meth c Q nL D A pc lv (kI x :: kI i :: .ref q :: st) ws cn sn := by
  obtain ⟨x1, x2, x3, x4, x5, x6, x7, x8, x9⟩ := X
  intro H locs ls hP hD hS hl
  refine va_iast x1 x2 x6 hP hD hS k 0 hw rfl (kI_in hi hn) d (fun H1 locs1 hP1 hD1 hS1 => ?_)
  rw [kI_clamp hi hn, hw'] at hP1 hD1
  exact kk H1 locs1 ls hP1 hD1 hS1 hl
/-- a reference field of the object at place 0 is read -/
theorem c_getR (X : cCx p s m args meth c cc own nL D cA A) {idx ci j n x q : Nat} {fs : List Value} {B : va_W} (F : kF own idx ci j n) (hv : fs[j]? = some (.ref q)) (d : decode cc pc = .ok (.getfield idx, 3)) (kk : cAt p l e R s m args below meth c Q nL D A (pc + 3) lv (.ref q :: st) ((x, .inr (ci, fs)) :: B) cn sn) : cAt p l e R s m args below meth c Q nL D A pc lv (.ref x :: st) ((x, .inr (ci, fs)) :: B) cn sn := by
  obtain ⟨C, T, h1, h2, h3, h4⟩ := F
  obtain ⟨x1, x2, x3, x4, x5, x6, x7, x8, x9⟩ := X
  intro H locs ls hP hD hS hl
  exact va_get (Ts := GW) x1 x2 x5 h3 x4 x6 hP 0 rfl h1 j h2 (x5 _ h4) (fun _ h => h) hv d (kk H locs ls hP hD hS hl)
end CC
/-- a constructor's start and end: one blank object; then its cells as the layout has them -/
def kCP (D : va_G) (cA : Nat → ClassId) (h0 : Nat) (as : List Value) (blank : va_E) (sz : Nat) : Array Value → State → Prop := va_Pc (.ref h0 :: as) (fun U => U.heap.size = sz ∧ va_P D vwCl [(h0, blank)] U.heap ∧ va_K D vwCl (kTys cA) U ∧ va_D (fun _ => True) [(h0, blank)] ∧ cX U)
def kCQ (D : va_G) (cA : Nat → ClassId) (h0 : Nat) (blank : va_E) (sz N : Nat) (kd : Nat → Nat × Nat × Nat) (z : Hp) : Array Value → State → Outcome → State → Prop := va_Qv (fun ad : Nat → Nat => ad 0 = h0) (fun ad t => va_P D vwCl (kW N kd cA ad z) t.heap ∧ va_D (va_A [(h0, blank)] sz) (kW N kd cA ad z)) (va_A [(h0, blank)] sz)
def kCR (d c s : Nat) : Room := { frames := d, cells := c, slots := s, locals := 64 * d }
def kCon (l : Launch) (y : MethodName) (bytes : ByteArray) (maxL d mc ms : Nat) (D : va_G) (cA : Nat → ClassId) (h0 : Nat) (as : List Value) (blank : va_E) (sz N : Nat) (kd : Nat → Nat × Nat × Nat) (z : Hp) : Prop := Met l y (Cond.code y bytes maxL none :: GW) (kCR d mc ms) (kCP D cA h0 as blank sz) (kCQ D cA h0 blank sz N kd z) mc ms (va_A [(h0, blank)] sz)
theorem c_blind {D : va_G} {cA : Nat → ClassId} {h0 sz : Nat} {as : List Value} {blank : va_E} : FrameBlind (kCP D cA h0 as blank sz) := by
  intro a U g mk q
  obtain ⟨q0, q1, q2, q3, q4, q5⟩ := q
  exact ⟨q0, q1, q2, va_K.moved (u := U) (U := U.calling g mk a) (Vm.Alike.refl U.vm) q3, q4, cX.same (u := U) (U := U.calling g mk a) rfl q5⟩
theorem kCR_one {d c s : Nat} (h : 0 < d) : 1 ≤ (kCR d c s).frames ∧ 64 ≤ (kCR d c s).locals := ⟨h, by show _ ≤ 64 * d; omega⟩
theorem kCR_ok {d d' ml c s : Nat} (h : d' < d) (hm : ml ≤ 45) : d' + 1 ≤ (kCR d c s).frames ∧ 8 + (ml + 11) + 64 * d' ≤ (kCR d c s).locals := ⟨h, by show _ ≤ 64 * d; omega⟩
/-- the head of a constructor's walk -/
theorem c_met {l : Launch} {y : MethodName} {cc : ByteArray} {own : String} {nL d mc ms h0 sz N : Nat} {D : va_G} {cA : Nat → ClassId} {as : List Value} {blank : va_E} {kd : Nat → Nat × Nat × Nat} {z : Hp} (hy : plainName y.cls = true) (hc : y.cls = own) (hyn : y.name = "<init>") (hlen : (lg_sl (.ref h0 :: as)).length ≤ nL)
    (body : ∀ (p : Program) (e : Env) (s : State) (m : MethodId) (below : List Frame) (meth : Method) (c : Code) (A : Nat → Prop), A = va_A [(h0, blank)] sz → cCx p s m ((.ref h0 :: as : List Value).toArray) meth c cc own nL D cA A → meth.sig.returnType = none → meth.locks = false → cAt p l e (kCR d mc ms) s m ((.ref h0 :: as : List Value).toArray) below meth c (MQ below (va_Qv (fun ad : Nat → Nat => ad 0 = h0) (fun ad t => va_P D vwCl (kW N kd cA ad z) t.heap ∧ va_D A (kW N kd cA ad z)) A) ((.ref h0 :: as : List Value).toArray) s mc ms A) nL D A 0 (lv_args 0 (.ref h0 :: as)) [] [(h0, blank)] 0 0) : kCon l y cc nL d mc ms D cA h0 as blank sz N kd z := by
  refine Met.ofW (cc := cc) (maxL := nL) (ret := none) hy rfl ?_
  intro p e s m args below meth c s₁ B hml hv
  obtain ⟨rfl, hsz, hP, hK, hD0, hX⟩ := hv
  subst hsz
  have hts := atoms_spec (ws := Cond.code y cc nL none :: GW) B.pre
  have hown : s.vm.findClass own = some m.cls := hc ▸ findClass_of_methodNamed B.named
  have hin : meth.name = "<init>" := hyn ▸ (name_of_methodNamed B.named B.method).1
  have hD := hD0.self (sz := s.heap.size)
  have hA : ∀ q : Nat, s.heap.size ≤ q → va_A [(h0, blank)] s.heap.size q := fun q h => Or.inr h
  have X : cCx p s m ((.ref h0 :: as : List Value).toArray) meth c cc own nL D cA (va_A [(h0, blank)] s.heap.size) := ⟨B.exec, B.bytes, hml, hown, fun w hw => hts w (List.mem_cons_of_mem _ hw), hK, hA, hin, hX⟩
  have hl := lv_entry (.ref h0 :: as) (n := nL) hlen
  rw [lg_entry_eq]
  exact body p e s m below meth c _ rfl X B.returns B.notSynchronized s.heap [] _ hP hD va_S.rf hl
section CC2
variable {p : Program} {l : Launch} {e : Env} {R : Room} {s : State} {m : MethodId} {args : Array Value} {below : List Frame} {meth : Method} {c : Code} {Q : State → Prop}
variable {cc : ByteArray} {own : String} {nL : Nat} {D : va_G} {cA : Nat → ClassId} {A : Nat → Prop}
variable {pc cn sn : Nat} {lv : List (Nat × Value)} {st : List Value} {ws : va_W}
theorem c_ret (X : cCx p s m args meth c cc own nL D cA A) (hr : meth.sig.returnType = none) (hk : meth.locks = false) {h0 N mc ms : Nat} {kd : Nat → Nat × Nat × Nat} {ad : Nat → Nat} {z : Hp} (hcn : cn ≤ mc) (hsn : sn ≤ ms) (h0e : ad 0 = h0) (hall : ∀ H, va_P D vwCl ws H → va_D A ws → va_P D vwCl (kW N kd cA ad z) H ∧ va_D A (kW N kd cA ad z)) (d : decode cc pc = .ok (.return_, 1)) : cAt p l e R s m args below meth c (MQ below (va_Qv (fun ad : Nat → Nat => ad 0 = h0) (fun ad t => va_P D vwCl (kW N kd cA ad z) t.heap ∧ va_D A (kW N kd cA ad z)) A) args s mc ms A) nL D A pc lv [] ws cn sn := by
  intro H locs ls hP hD hS hl
  refine W.widen hcn hsn ?_
  exact W.vret (Qc := va_Qv (fun ad : Nat → Nat => ad 0 = h0) (fun ad t => va_P D vwCl (kW N kd cA ad z) t.heap ∧ va_D A (kW N kd cA ad z)) A) (free := A) X.1 X.2.1 hr (fun t ht hW => ⟨⟨ad, rfl, h0e, by show va_P D vwCl _ t.heap ∧ _; rw [ht]; exact hall H hP hD⟩, hS.F ht⟩) hS.2.2 d hk
/-- behind a constructor's call: the blank object at the world's end has become its cells -/
theorem c_grow {W1 w1 : va_W} {x : Nat × va_E} {H H1 : Heap} (hP : va_P D vwCl (W1 ++ [x]) H) (hD : va_D A (W1 ++ [x])) (hk : ∀ q : Nat, q < H.size → ¬ va_A [x] H.size q → H1[q]? = H[q]?) (hF : ∀ q, va_A [x] H.size q → A q) (hP1 : va_P D vwCl w1 H1) (hD1 : va_D (va_A [x] H.size) w1) : va_P D vwCl (W1 ++ w1) H1 ∧ va_D A (W1 ++ w1) := by
  have hx : (W1 ++ [x])[W1.length]? = some x := by rw [List.getElem?_append_right (Nat.le_refl _), Nat.sub_self]; rfl
  have old : ∀ (k : Nat) (q : Nat × va_E), W1[k]? = some q → (W1 ++ [x])[k]? = some q ∧ k < W1.length := fun k q h => by
    have hl := (List.getElem?_eq_some_iff.mp h).1
    exact ⟨by rw [List.getElem?_append_left hl]; exact h, hl⟩
  have ap : ∀ (k : Nat) (q : Nat × va_E), W1[k]? = some q → q.1 < H.size ∧ ¬ va_A [x] H.size q.1 := fun k q h => by
    obtain ⟨h1, hl⟩ := old k q h
    have hlt := (hP k q h1).lt
    refine ⟨hlt, fun g => ?_⟩
    rcases g with ⟨i, e, hi⟩ | g
    · have h0 : i < 1 := (List.getElem?_eq_some_iff.mp hi).1
      rw [show i = 0 by omega] at hi
      have e1 : x = (q.1, e) := Option.some.inj hi
      have := hD.1 k W1.length q x h1 hx (by rw [e1])
      omega
    · omega
  constructor
  · intro k q hq
    by_cases hl : k < W1.length
    · rw [List.getElem?_append_left hl] at hq
      obtain ⟨a1, a2⟩ := ap k q hq
      exact (hP k q (old k q hq).1).kept (hk q.1 a1 a2)
    · rw [List.getElem?_append_right (by omega)] at hq
      exact hP1 _ q hq
  · refine ⟨fun i j a b hi hj hab => ?_, fun k q hq => ?_⟩
    · by_cases hi1 : i < W1.length <;> by_cases hj1 : j < W1.length
      · rw [List.getElem?_append_left hi1] at hi
        rw [List.getElem?_append_left hj1] at hj
        exact hD.1 i j a b (old i a hi).1 (old j b hj).1 hab
      · rw [List.getElem?_append_left hi1] at hi
        rw [List.getElem?_append_right (by omega)] at hj
        exact absurd (by rw [hab]; exact hD1.2 _ b hj) (ap i a hi).2
      · rw [List.getElem?_append_right (by omega)] at hi
        rw [List.getElem?_append_left hj1] at hj
        exact absurd (by rw [← hab]; exact hD1.2 _ a hi) (ap j b hj).2
      · rw [List.getElem?_append_right (by omega)] at hi hj
        have := hD1.1 _ _ a b hi hj hab
        omega
    · by_cases hl : k < W1.length
      · rw [List.getElem?_append_left hl] at hq
        exact hD.2 k q (old k q hq).1
      · rw [List.getElem?_append_right (by omega)] at hq
        exact hF _ (hD1.2 _ q hq)
theorem c_lift {x : Nat × va_E} {W1 : va_W} {H : Heap} {locs : List Loc} (hA : ∀ q, s.heap.size ≤ q → A q) (hD : va_D A (W1 ++ [x])) (hS : va_S A s.heap H locs) : ∀ q, va_A [x] H.size q → A q := by
  intro q h
  have hx : (W1 ++ [x])[W1.length]? = some x := by rw [List.getElem?_append_right (Nat.le_refl _), Nat.sub_self]; rfl
  rcases h with ⟨i, e, hi⟩ | h
  · have h0 : i < 1 := (List.getElem?_eq_some_iff.mp hi).1
    rw [show i = 0 by omega] at hi
    have e1 : x = (q, e) := Option.some.inj hi
    have := hD.2 W1.length x hx
    rw [e1] at this
    exact this
  · exact hA q (Nat.le_trans hS.1 h)
theorem c_pre (X : cCx p s m args meth c cc own nL D cA A) {x : Nat × va_E} {W1 : va_W} {as : List Value} {H : Heap} (hP : va_P D vwCl (W1 ++ [x]) H) (U : State) (hU : U.heap = H) (hW : s.WarmedH U.vm) : kCP D cA x.1 as x.2 H.size (.ref x.1 :: as : List Value).toArray U := by
  refine ⟨rfl, by rw [hU], ?_, va_K.moved hW.alike X.2.2.2.2.2.1, ?_, cX.warm hW X.2.2.2.2.2.2.2.2⟩
  · rw [hU]
    intro k q hq
    have h0 : k < 1 := (List.getElem?_eq_some_iff.mp hq).1
    rw [show k = 0 by omega] at hq
    have e1 : x = q := Option.some.inj hq
    exact hP W1.length q (by rw [List.getElem?_append_right (Nat.le_refl _), Nat.sub_self, ← e1]; rfl)
  · refine ⟨fun i j a b hi hj _ => ?_, fun _ _ _ => trivial⟩
    have h0 : i < 1 := (List.getElem?_eq_some_iff.mp hi).1
    have h1 : j < 1 := (List.getElem?_eq_some_iff.mp hj).1
    omega
/-- a nested class's constructor, private (by the nest) -/
theorem c_conN (X : cCx p s m args meth c cc own nL D cA A) {y : MethodName} {host : String} {bytes : ByteArray} {maxL dd mc ms idx n q N : Nat} {as : List Value} {blank : va_E} {kd : Nat → Nat × Nat × Nat} {z : Hp} (hM : ∀ sz, kCon l y bytes maxL dd mc ms D cA q as blank sz N kd z) (hnest : va_Nw (.methodLinkNest own idx y host) s) (w2 : Cond.instanceMethod y ∈ GW) (w3 : Cond.initialized y.cls ∈ GW) (w4 : Cond.code y bytes maxL none ∈ GW) (hyn : y.name = "<init>") (hy : kyOk y n) (hn : as.length = n) (hR : dd + 1 ≤ R.frames ∧ 8 + (maxL + 11) + 64 * dd ≤ R.locals) (hst : (st.map fun v => v.category).sum ≤ 8) (hc : cn + mc ≤ R.cells) (hs : sn + ms ≤ R.slots) (d : decode cc pc = .ok (.invokespecial idx, 3))
    (kk : ∀ ad : Nat → Nat, ad 0 = q → cAt p l e R s m args below meth c Q nL D A (pc + 3) lv st (ws ++ kW N kd cA ad z) (cn + mc) (sn + ms)) : cAt p l e R s m args below meth c Q nL D A pc lv (as.reverse ++ .ref q :: st) (ws ++ [(q, blank)]) cn sn := by
  intro H locs ls hP hD hS hl
  have X0 := X
  obtain ⟨x1, x2, x3, x4, x5, x6, x7, x8, x9⟩ := X
  have hG : GoodIn GW (Cond.code y bytes maxL none :: GW) := fun w hw => by
    rcases List.mem_cons.mp hw with rfl | hw
    · exact ⟨w4, good_of_word (GW_good _ w4)⟩
    · exact ⟨hw, good_of_word (GW_good _ hw)⟩
  have hF := c_lift x7 hD hS
  refine va_callv (va_runIN (As := as) (rest := st) (Ts := GW) (g := F0 m pc ls (as.reverse ++ .ref q :: st)) ⟨x1, x2, x3, x4, x5⟩ (hM H.size) ⟨va_cnB n x5 hG rfl rfl rfl hnest (x5 _ w3) hy hR, hyn, x5 _ w2⟩ ⟨c_blind, c_pre (x := (q, blank)) X0 hP⟩ rfl hn hl.1 rfl (lv_room hst) d ⟨hc, hs⟩) hS (fun q _ h => hF q h) hF (fun ad t H1 locs1 ht hvm h0 hB hz hk hS1 => ?_)
  rw [ht] at hB
  obtain ⟨g1, g2⟩ := c_grow hP hD hk hF hB.1 hB.2
  exact kk ad h0 H1 locs1 ls g1 g2 hS1 hl
/-- .. one that isn't -/
theorem c_con (X : cCx p s m args meth c cc own nL D cA A) {y : MethodName} {bytes : ByteArray} {maxL dd mc ms idx n q N : Nat} {as : List Value} {blank : va_E} {kd : Nat → Nat × Nat × Nat} {z : Hp} (hM : ∀ sz, kCon l y bytes maxL dd mc ms D cA q as blank sz N kd z) (w1 : Cond.methodLink own idx y ∈ GW) (w2 : Cond.instanceMethod y ∈ GW) (w3 : Cond.initialized y.cls ∈ GW) (w4 : Cond.code y bytes maxL none ∈ GW) (hyn : y.name = "<init>") (hy : kyOk y n) (hn : as.length = n) (hR : dd + 1 ≤ R.frames ∧ 8 + (maxL + 11) + 64 * dd ≤ R.locals) (hst : (st.map fun v => v.category).sum ≤ 8) (hc : cn + mc ≤ R.cells) (hs : sn + ms ≤ R.slots) (d : decode cc pc = .ok (.invokespecial idx, 3))
    (kk : ∀ ad : Nat → Nat, ad 0 = q → cAt p l e R s m args below meth c Q nL D A (pc + 3) lv st (ws ++ kW N kd cA ad z) (cn + mc) (sn + ms)) : cAt p l e R s m args below meth c Q nL D A pc lv (as.reverse ++ .ref q :: st) (ws ++ [(q, blank)]) cn sn := by
  intro H locs ls hP hD hS hl
  have X0 := X
  obtain ⟨x1, x2, x3, x4, x5, x6, x7, x8, x9⟩ := X
  have hG : GoodIn GW (Cond.code y bytes maxL none :: GW) := fun w hw => by
    rcases List.mem_cons.mp hw with rfl | hw
    · exact ⟨w4, good_of_word (GW_good _ w4)⟩
    · exact ⟨hw, good_of_word (GW_good _ hw)⟩
  have hF := c_lift x7 hD hS
  refine va_callv (va_runI (As := as) (rest := st) (Ts := GW) (g := F0 m pc ls (as.reverse ++ .ref q :: st)) ⟨x1, x2, x3, x4, x5⟩ (hM H.size) (cwI n x5 hG rfl rfl rfl (x5 _ w3) (x5 _ w1) (x5 _ w2) hyn hy hR) ⟨c_blind, c_pre (x := (q, blank)) X0 hP⟩ rfl hn hl.1 rfl (lv_room hst) d ⟨hc, hs⟩) hS (fun q _ h => hF q h) hF (fun ad t H1 locs1 ht hvm h0 hB hz hk hS1 => ?_)
  rw [ht] at hB
  obtain ⟨g1, g2⟩ := c_grow hP hD hk hF hB.1 hB.2
  exact kk ad h0 H1 locs1 ls g1 g2 hS1 hl
end CC2
