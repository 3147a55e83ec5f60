/-- what the tables say of arrays of such rows -/
def va_AOA (t : FieldType) (U : State) : Prop := (Cond.arrayOver (.array t)).before #[] U = true
theorem va_AOA.use {t : FieldType} {A : Array Value} {U : State} (h : va_AOA t U) : (Cond.arrayOver (.array t)).before A U = true := h
/-! ===== BEGIN new T[n][m]: the outer array a place, the inner ones among the pooled ===== -/
/-- f, but v at every address of l -/
def vr_up {α : Type} (f : Nat → α) (l : List Nat) (v : α) : Nat → α := fun a => if a ∈ l then v else f a
theorem vr_up_in {α : Type} {f : Nat → α} {l : List Nat} {v : α} {a : Nat} (h : a ∈ l) : vr_up f l v a = v := if_pos h
theorem vr_up_ne {α : Type} {f : Nat → α} {l : List Nat} {v : α} {a : Nat} (h : a ∉ l) : vr_up f l v a = f a := if_neg h
theorem vr_rows {L l : List Nat} {f : Nat → va_E} {e : va_E} (h : ∀ a, a ∈ l → a ∉ L) : va_pl L f ++ l.map (fun a => (a, e)) = va_pl (L ++ l) (vr_up f l e) := by
  unfold va_pl
  rw [List.map_append]
  congr 1
  · apply List.map_congr_left
    intro a ha
    rw [vr_up_ne (fun q => h a q ha)]
  · apply List.map_congr_left
    intro a ha
    rw [vr_up_in ha]
theorem vr_lay {X rows : va_W} {x : Nat × va_E} {pl : va_W} {D : va_G} {cl : List vw_C} {H : Heap} (hP : va_P D cl (((X ++ pl) ++ [x]) ++ rows) H) : va_P D cl ((X ++ [x]) ++ (pl ++ rows)) H := by
  rw [List.append_assoc (X ++ pl)] at hP
  have h := va_P.swap hP
  rw [← List.append_assoc X] at h
  have h2 := va_P.swap h
  rw [List.append_assoc (X ++ [x])] at h2
  exact h2
theorem vr_layD {X rows : va_W} {x : Nat × va_E} {pl : va_W} {A : Nat → Prop} (hD : va_D A (((X ++ pl) ++ [x]) ++ rows)) : va_D A ((X ++ [x]) ++ (pl ++ rows)) := by
  rw [List.append_assoc (X ++ pl)] at hD
  have h := va_D.swap hD
  rw [← List.append_assoc X] at h
  have h2 := va_D.swap h
  rw [List.append_assoc (X ++ [x])] at h2
  exact h2
theorem vr_outer (c : ClassId) (N h0 : Nat) : ∀ i : Nat, Jvm.Free.Multi.outerC c N h0 i = arrV c N (fun j => va_rf (if j < i then some (h0 + 1 + j) else none))
  | 0 => by
    show ({ cls := c, slots := Array.replicate N .null, vm := .none } : Cell) = _
    rw [arrV_new]
    refine congrArg (arrV c N) (funext fun j => ?_)
    simp [va_rf]
  | i + 1 => by
    show (Jvm.Free.Multi.outerC c N h0 i).setSlot i (.ref (h0 + 1 + i)) = _
    rw [vr_outer c N h0 i, arrV_store]
    refine congrArg (arrV c N) (funext fun j => ?_)
    by_cases e : j = i
    · subst e
      simp [updV, va_rf]
    · by_cases h : j < i
      · simp [updV, e, h, Nat.lt_succ_of_lt h]
      · simp [updV, e, h, show ¬ j < i + 1 by omega]
section VGM
variable {p : Program} {l : Launch} {e : Env} {R : Room} {s : State} {m : MethodId} {args : Array Value} {below : List Frame} {meth : Method} {c : Code} {H : Heap} {locs : List Loc} {cells slots : Nat} {Q : State → Prop}
variable {cc : ByteArray} {pc : Nat} {ls : Array Slot} {rest : List Value} {D : va_G} {cl : List vw_C} {A : Nat → Prop} {a : Nat} {tys : List (ClassId × FieldType)} {ws : va_W} {H0 : Heap}
theorem va_mna {X : va_W} {L : List Nat} {f : Nat → va_E} {cc : ByteArray} (hexec : p.tables.exec = Jvm.exec) (hb : c.code = cc) {own : String} {index : Nat} {ty : FieldType} {cy : ClassId} (hown : s.vm.findClass own = some m.cls) (hclink : (Cond.classLink own index ("[" ++ (FieldType.array ty).toString)).before args s = true) (hover : va_AOA ty s) (harr : (Cond.arrayClass ty).before args s = true) (hcy : s.vm.findClass (FieldType.array ty).toString = some cy)
    (hK : va_K D cl tys s) (hP : va_P D cl (X ++ va_pl L f) H) (hD : va_D A (X ++ va_pl L f)) (hS : va_S A H0 H locs) (hA : ∀ q, H0.size ≤ q → A q) {n k : Int32} {N' K' : Nat} {z : vp_A} (hn : ¬ n < 0) (hk : ¬ k < 0) (hN : n.toNatClampNeg = N') (hM : k.toNatClampNeg = K')
    (hb1 : N' * 4 ≤ 536870912) (hb2 : K' * componentBytes ty ≤ 536870912) (hb3 : K' ≤ 536870912) (hdf : fits ty (defaultValue ty) = true) (hdd : (defaultValue ty).isDefault = true) (hcells : cells + (1 + N') ≤ R.cells) (hslots : slots + (N' + N' * K') ≤ R.slots) (hz : ∀ c : ClassId, Jvm.Free.Multi.innerC c K' (defaultValue ty) = vp_cell c z) (hdg : decode cc pc = .ok (.multianewarray index 2, 4))
    (kk : ∀ (q : Nat) (r : Nat → Nat) (cA : ClassId) (H1 : Heap), (∀ i j : Nat, i < N' → j < N' → r i = r j → i = j) → (∀ i : Nat, i < N' → r i ∉ L) → va_K D cl (tys ++ [(cA, .array ty)]) s →
      va_P D cl ((X ++ [(q, .inl (cA, N', .inr (.inr (.inr (.inr (fun i => if i < N' then some (r i) else none))))))]) ++ va_pl (L ++ (List.range N').map r) (vr_up f ((List.range N').map r) (.inl (cy, z)))) H1 → va_D A ((X ++ [(q, .inl (cA, N', .inr (.inr (.inr (.inr (fun i => if i < N' then some (r i) else none))))))]) ++ va_pl (L ++ (List.range N').map r) (vr_up f ((List.range N').map r) (.inl (cy, z)))) → va_S A H0 H1 locs →
      W p l e R s m args below meth c H1 locs (cells + 1 + N') (slots + N' + N' * K') Q (F0 m (pc + 4) ls (.ref q :: rest))) : W p l e R s m args below meth c H locs cells slots Q (F0 m pc ls (.int k :: .int n :: rest)) := by
  subst hN
  subst hM
  intro T hT Xs
  obtain ⟨vm₁, cA, comp, -, fA, fC, hO, -, X', step⟩ := Xs.multianewarray2F hexec hown hclink (va_AOA.use hover) harr (g := F0 m pc ls (.int k :: .int n :: rest)) rfl (by rw [hb]; exact hdg) rfl hn hk hb1 hb2 hb3 hdf hdd hcells hslots
  have ec : some cy = some comp := hcy.symm.trans fC
  cases ec
  generalize hF : Jvm.Free.Multi.fill (T.setVm vm₁) cA cy n.toNatClampNeg k.toNatClampNeg (defaultValue ty) n.toNatClampNeg = F at X' step
  have hTh : (T.setVm vm₁).heap = H := hT
  obtain ⟨f1, f2, -, -⟩ := Jvm.Free.Multi.fill_facts (T.setVm vm₁) cA cy n.toNatClampNeg k.toNatClampNeg (defaultValue ty) n.toNatClampNeg
  rw [hF, hTh] at f1 f2
  have hold : ∀ x : Nat, x < H.size → F.heap[x]? = H[x]? := fun x hx => by
    have := Jvm.Free.Multi.fill_old (T.setVm vm₁) cA cy n.toNatClampNeg k.toNatClampNeg (defaultValue ty) (a := x) (by rw [hTh]; exact hx) n.toNatClampNeg
    rw [hF, hTh] at this
    exact this
  have hrow : ∀ j : Nat, j < n.toNatClampNeg → F.heap[H.size + 1 + j]? = some (vp_cell cy z) := fun j hj => by
    have := Jvm.Free.Multi.fill_inner (T.setVm vm₁) cA cy n.toNatClampNeg k.toNatClampNeg (defaultValue ty) n.toNatClampNeg j hj
    rw [hF, hTh, hz] at this
    exact this
  have hout : Jvm.Free.Multi.outerC cA n.toNatClampNeg H.size n.toNatClampNeg = vp_cell cA (n.toNatClampNeg, .inr (.inr (.inr (.inr (fun i => if i < n.toNatClampNeg then some (H.size + 1 + i) else none))))) := by
    rw [vp_cell_q]
    exact vr_outer cA n.toNatClampNeg H.size n.toNatClampNeg
  rw [hout] at f2
  have hlt : ∀ a, a ∈ L → a < H.size := fun a ha => by
    obtain ⟨k9, hk9⟩ := va_pl_get (X := X) (f := f) ha
    exact (hP k9 _ hk9).lt
  have hnl : ∀ i : Nat, i < n.toNatClampNeg → H.size + 1 + i ∉ L := fun i _ h => by
    have := hlt _ h
    omega
  have hnm : ∀ a, a ∈ (List.range n.toNatClampNeg).map (fun i => H.size + 1 + i) → a ∉ L := fun a ha h => by
    obtain ⟨i, -, rfl⟩ := List.mem_map.mp ha
    have := hlt _ h
    omega
  have hP0 : va_P D cl (X ++ va_pl L f) F.heap := hP.kept (fun k9 x hx => hold x.1 ((hP k9 x hx).lt))
  have hP1 : va_P D cl ((X ++ va_pl L f) ++ [(H.size, .inl (cA, n.toNatClampNeg, .inr (.inr (.inr (.inr (fun i => if i < n.toNatClampNeg then some (H.size + 1 + i) else none))))))]) F.heap := hP0.app (fun k9 x hx => by
    have h0 : k9 < 1 := (List.getElem?_eq_some_iff.mp hx).1
    rw [show k9 = 0 by omega] at hx
    cases hx
    exact f2)
  have hP2 : va_P D cl (((X ++ va_pl L f) ++ [(H.size, .inl (cA, n.toNatClampNeg, .inr (.inr (.inr (.inr (fun i => if i < n.toNatClampNeg then some (H.size + 1 + i) else none))))))]) ++ ((List.range n.toNatClampNeg).map (fun i => H.size + 1 + i)).map (fun a => (a, .inl (cy, z)))) F.heap := hP1.app (fun k9 x hx => by
    obtain ⟨a, ha, rfl⟩ := List.mem_map.mp (List.mem_of_getElem? hx)
    obtain ⟨i, hi, rfl⟩ := List.mem_map.mp ha
    exact hrow i (List.mem_range.mp hi))
  have hD2 : va_D A (((X ++ va_pl L f) ++ [(H.size, .inl (cA, n.toNatClampNeg, .inr (.inr (.inr (.inr (fun i => if i < n.toNatClampNeg then some (H.size + 1 + i) else none))))))]) ++ ((List.range n.toNatClampNeg).map (fun i => H.size + 1 + i)).map (fun a => (a, .inl (cy, z)))) := by
    have hD1 := hD.push (e := .inl (cA, n.toNatClampNeg, .inr (.inr (.inr (.inr (fun i => if i < n.toNatClampNeg then some (H.size + 1 + i) else none)))))) hP rfl (hA _ hS.1)
    generalize hW1 : (X ++ va_pl L f) ++ [(H.size, .inl (cA, n.toNatClampNeg, .inr (.inr (.inr (.inr (fun i => if i < n.toNatClampNeg then some (H.size + 1 + i) else none))))))] = W1 at hD1 hP1 ⊢
    have hle : ∀ (k9 : Nat) (x : Nat × va_E), W1[k9]? = some x → x.1 ≤ H.size := fun k9 x hx => by
      rw [← hW1] at hx
      by_cases hl : k9 < (X ++ va_pl L f).length
      · rw [List.getElem?_append_left hl] at hx
        exact Nat.le_of_lt ((hP k9 x hx).lt)
      · rw [List.getElem?_append_right (by omega)] at hx
        have h0 : k9 - (X ++ va_pl L f).length < 1 := (List.getElem?_eq_some_iff.mp hx).1
        rw [show k9 - (X ++ va_pl L f).length = 0 by omega] at hx
        cases hx
        exact Nat.le_refl _
    have hr : ∀ (k9 : Nat) (x : Nat × va_E), (((List.range n.toNatClampNeg).map (fun i => H.size + 1 + i)).map (fun a => ((a, .inl (cy, z)) : Nat × va_E)))[k9]? = some x → x.1 = H.size + 1 + k9 := fun k9 x hx => by
      rw [List.getElem?_map, List.getElem?_map] at hx
      by_cases h9 : k9 < n.toNatClampNeg
      · rw [List.getElem?_range h9] at hx
        cases hx
        rfl
      · have hn0 : (List.range n.toNatClampNeg)[k9]? = none := List.getElem?_eq_none (by rw [List.length_range]; omega)
        rw [hn0] at hx
        cases hx
    refine ⟨fun i j x y hi hj hxy => ?_, fun k9 x hx => ?_⟩
    · by_cases h1 : i < W1.length <;> by_cases h2 : j < W1.length
      · rw [List.getElem?_append_left h1] at hi
        rw [List.getElem?_append_left h2] at hj
        exact hD1.1 i j x y hi hj hxy
      · rw [List.getElem?_append_left h1] at hi
        rw [List.getElem?_append_right (by omega)] at hj
        have := hle _ _ hi
        have := hr _ _ hj
        omega
      · rw [List.getElem?_append_right (by omega)] at hi
        rw [List.getElem?_append_left h2] at hj
        have := hle _ _ hj
        have := hr _ _ hi
        omega
      · rw [List.getElem?_append_right (by omega)] at hi hj
        have := hr _ _ hi
        have := hr _ _ hj
        omega
    · by_cases h1 : k9 < W1.length
      · rw [List.getElem?_append_left h1] at hx
        exact hD1.2 k9 x hx
      · rw [List.getElem?_append_right (by omega)] at hx
        have := hr _ _ hx
        exact hA _ (by have := hS.1; omega)
  have hAr : ArrOfT s cA (.array ty) := fun N9 z9 => by
    obtain ⟨-, k9, hk9, cm9, hkk9⟩ := (hO 0 0 0).1
    exact ⟨(fun q hq => by cases hq), k9, hk9, cm9, hkk9⟩
  have hK2 : va_K D cl (tys ++ [(cA, .array ty)]) s := ⟨hK.1, fun k9 x hx => by
    by_cases hl : k9 < tys.length
    · rw [List.getElem?_append_left hl] at hx
      exact hK.2 k9 x hx
    · rw [List.getElem?_append_right (by omega)] at hx
      have h0 : k9 - tys.length < 1 := (List.getElem?_eq_some_iff.mp hx).1
      rw [show k9 - tys.length = 0 by omega] at hx
      cases hx
      exact ⟨hAr, fA⟩⟩
  obtain ⟨t, a1, b1⟩ := kk H.size (fun i => H.size + 1 + i) cA F.heap (fun i j _ _ h => by have h9 : H.size + 1 + i = H.size + 1 + j := h; omega) hnl hK2 (by rw [← vr_rows hnm]; exact vr_lay hP2) (by rw [← vr_rows hnm]; exact vr_layD hD2) ⟨by rw [f1]; have := hS.1; omega, fun x h1 h2 => (hold x (Nat.lt_of_lt_of_le h1 hS.1)).trans (hS.2.1 x h1 h2), hS.2.2⟩ F rfl X'
  refine ⟨t, step t ?_, b1⟩
  have e : T.heap.size = H.size := by rw [hT]
  rw [e]
  exact a1
end VGM
/-! ===== END ===== -/

def RX0 : String := "ForgivenStreet$Changes"
def TX0 : u_T := fun k => match k with
  | 0 => ("ForgivenStreet$Changes", "numbers", "[I", true)
  | 1 => ("ForgivenStreet$Changes", "whats", "[I", true)
  | 2 => ("ForgivenStreet$Changes", "olds", "[I", true)
  | 3 => ("ForgivenStreet$Changes", "news", "[I", true)
  | 4 => ("ForgivenStreet$Changes", "held", "I", false)
  | _ => ("ForgivenStreet$Changes", "done", "I", false)
def tyX0 : Nat → FieldType := fun k => match k with
  | 0 => .array .int
  | 1 => .array .int
  | 2 => .array .int
  | 3 => .array .int
  | 4 => .int
  | _ => .int
abbrev wsX00 : List Cond := u_ws RX0 TX0 6
theorem nmX0 : ∀ a, a < 6 → ∀ b, b < 6 → a ≠ b → (TX0 a).2.1 ≠ (TX0 b).2.1 := by decide +kernel
theorem tyX0_ok : ∀ k, k < 6 → parseFieldDescriptor (TX0 k).2.2.1 = some (tyX0 k) := by decide +kernel
abbrev cX0_init : ByteArray := prog_2_method_1_code
def yX0_init : MethodName := ⟨RX0, "<init>", "()V"⟩
abbrev cX0_note : ByteArray := prog_2_method_2_code
def yX0_note : MethodName := ⟨RX0, "note", "(IIII)V"⟩
abbrev cX0_dropOldest : ByteArray := prog_2_method_3_code
def yX0_dropOldest : MethodName := ⟨RX0, "dropOldest", "()V"⟩
abbrev cX0_toUndo : ByteArray := prog_2_method_4_code
def yX0_toUndo : MethodName := ⟨RX0, "toUndo", "()Z"⟩
abbrev cX0_toRedo : ByteArray := prog_2_method_5_code
def yX0_toRedo : MethodName := ⟨RX0, "toRedo", "()Z"⟩
abbrev cX0_stepBack : ByteArray := prog_2_method_6_code
def yX0_stepBack : MethodName := ⟨RX0, "stepBack", "()I"⟩
abbrev cX0_stepOn : ByteArray := prog_2_method_7_code
def yX0_stepOn : MethodName := ⟨RX0, "stepOn", "()I"⟩
def RX1 : String := "ForgivenStreet$Doors"
def TX1 : u_T := fun k => match k with
  | 0 => ("ForgivenStreet$Doors", "bodies", "I", false)
  | 1 => ("ForgivenStreet$Doors", "kinds", "[I", true)
  | 2 => ("ForgivenStreet$Doors", "traced", "[I", true)
  | 3 => ("ForgivenStreet$Doors", "ran", "I", false)
  | 4 => ("ForgivenStreet$Doors", "number", "I", false)
  | _ => ("ForgivenStreet$Doors", "kind", "I", false)
def tyX1 : Nat → FieldType := fun k => match k with
  | 0 => .int
  | 1 => .array .int
  | 2 => .array .int
  | 3 => .int
  | 4 => .int
  | _ => .int
abbrev wsX10 : List Cond := u_ws RX1 TX1 6
theorem nmX1 : ∀ a, a < 6 → ∀ b, b < 6 → a ≠ b → (TX1 a).2.1 ≠ (TX1 b).2.1 := by decide +kernel
theorem tyX1_ok : ∀ k, k < 6 → parseFieldDescriptor (TX1 k).2.2.1 = some (tyX1 k) := by decide +kernel
abbrev cX1_init : ByteArray := prog_3_method_1_code
def yX1_init : MethodName := ⟨RX1, "<init>", "()V"⟩
abbrev cX1_isKind : ByteArray := prog_3_method_2_code
def yX1_isKind : MethodName := ⟨RX1, "isKind", "(I)Z"⟩
abbrev cX1_isBody : ByteArray := prog_3_method_3_code
def yX1_isBody : MethodName := ⟨RX1, "isBody", "(I)Z"⟩
abbrev cX1_kindOf : ByteArray := prog_3_method_4_code
def yX1_kindOf : MethodName := ⟨RX1, "kindOf", "(I)I"⟩
abbrev cX1_add : ByteArray := prog_3_method_5_code
def yX1_add : MethodName := ⟨RX1, "add", "(I)I"⟩
abbrev cX1_isUnder : ByteArray := prog_3_method_6_code
def yX1_isUnder : MethodName := ⟨RX1, "isUnder", "(II)Z"⟩
abbrev cX1_ranAs : ByteArray := prog_3_method_7_code
def yX1_ranAs : MethodName := ⟨RX1, "ranAs", "(I)I"⟩
abbrev cX1_perform : ByteArray := prog_3_method_8_code
def yX1_perform : MethodName := ⟨RX1, "perform", "(III)I"⟩
abbrev cX1_from : ByteArray := prog_3_method_9_code
def yX1_from : MethodName := ⟨RX1, "from", "(IIII)I"⟩
abbrev cX1_perBody : ByteArray := prog_3_method_10_code
def yX1_perBody : MethodName := ⟨RX1, "perBody", "(IIII)I"⟩
def RX2 : String := "ForgivenStreet$Evening"
def TX2 : u_T := fun k => match k with
  | 0 => ("ForgivenStreet$Evening", "wrongs", "[I", true)
  | 1 => ("ForgivenStreet$Evening", "doers", "[I", true)
  | 2 => ("ForgivenStreet$Evening", "homes", "[I", true)
  | 3 => ("ForgivenStreet$Evening", "worths", "[I", true)
  | 4 => ("ForgivenStreet$Evening", "size", "I", false)
  | 5 => ("ForgivenStreet$Evening", "bestSum", "I", false)
  | _ => ("ForgivenStreet$Evening", "bestBits", "I", false)
def tyX2 : Nat → FieldType := fun k => match k with
  | 0 => .array .int
  | 1 => .array .int
  | 2 => .array .int
  | 3 => .array .int
  | 4 => .int
  | 5 => .int
  | _ => .int
abbrev wsX20 : List Cond := u_ws RX2 TX2 7
theorem nmX2 : ∀ a, a < 7 → ∀ b, b < 7 → a ≠ b → (TX2 a).2.1 ≠ (TX2 b).2.1 := by decide +kernel
theorem tyX2_ok : ∀ k, k < 7 → parseFieldDescriptor (TX2 k).2.2.1 = some (tyX2 k) := by decide +kernel
abbrev cX2_init : ByteArray := prog_4_method_1_code
def yX2_init : MethodName := ⟨RX2, "<init>", "()V"⟩
abbrev cX2_clear : ByteArray := prog_4_method_2_code
def yX2_clear : MethodName := ⟨RX2, "clear", "()V"⟩
abbrev cX2_offer : ByteArray := prog_4_method_3_code
def yX2_offer : MethodName := ⟨RX2, "offer", "(IIII)V"⟩
abbrev cX2_search : ByteArray := prog_4_method_4_code
def yX2_search : MethodName := ⟨RX2, "search", "()V"⟩
abbrev cX2_choose : ByteArray := prog_4_method_5_code
def yX2_choose : MethodName := ⟨RX2, "choose", "(IIIII)V"⟩
abbrev cX2_restFrom : ByteArray := prog_4_method_6_code
def yX2_restFrom : MethodName := ⟨RX2, "restFrom", "(I)I"⟩
abbrev cX2_isBetter : ByteArray := prog_4_method_7_code
def yX2_isBetter : MethodName := ⟨RX2, "isBetter", "(II)Z"⟩
def RX3 : String := "ForgivenStreet$Folk"
def TX3 : u_T := fun k => match k with
  | 0 => ("ForgivenStreet$Folk", "people", "I", false)
  | 1 => ("ForgivenStreet$Folk", "houses", "[I", true)
  | 2 => ("ForgivenStreet$Folk", "hearts", "[I", true)
  | 3 => ("ForgivenStreet$Folk", "wrongs", "I", false)
  | 4 => ("ForgivenStreet$Folk", "by", "[I", true)
  | 5 => ("ForgivenStreet$Folk", "to", "[I", true)
  | _ => ("ForgivenStreet$Folk", "weights", "[I", true)
def tyX3 : Nat → FieldType := fun k => match k with
  | 0 => .int
  | 1 => .array .int
  | 2 => .array .int
  | 3 => .int
  | 4 => .array .int
  | 5 => .array .int
  | _ => .array .int
abbrev wsX30 : List Cond := u_ws RX3 TX3 7
theorem nmX3 : ∀ a, a < 7 → ∀ b, b < 7 → a ≠ b → (TX3 a).2.1 ≠ (TX3 b).2.1 := by decide +kernel
theorem tyX3_ok : ∀ k, k < 7 → parseFieldDescriptor (TX3 k).2.2.1 = some (tyX3 k) := by decide +kernel
abbrev cX3_init : ByteArray := prog_5_method_1_code
def yX3_init : MethodName := ⟨RX3, "<init>", "()V"⟩
abbrev cX3_isOne : ByteArray := prog_5_method_2_code
def yX3_isOne : MethodName := ⟨RX3, "isOne", "(I)Z"⟩
abbrev cX3_isWrong : ByteArray := prog_5_method_3_code
def yX3_isWrong : MethodName := ⟨RX3, "isWrong", "(I)Z"⟩
abbrev cX3_isSo : ByteArray := prog_5_method_4_code
def yX3_isSo : MethodName := ⟨RX3, "isSo", "(III)Z"⟩
abbrev cX3_settle : ByteArray := prog_5_method_5_code
def yX3_settle : MethodName := ⟨RX3, "settle", "(I)I"⟩
abbrev cX3_offend : ByteArray := prog_5_method_6_code
def yX3_offend : MethodName := ⟨RX3, "offend", "(III)I"⟩
abbrev cX3_seers : ByteArray := prog_5_method_7_code
def yX3_seers : MethodName := ⟨RX3, "seers", "(II)I"⟩
def RX4 : String := "ForgivenStreet$Law"
def TX4 : u_T := fun k => match k with
  | 0 => ("ForgivenStreet$Law", "fed", "I", false)
  | 1 => ("ForgivenStreet$Law", "tape", "[I", true)
  | 2 => ("ForgivenStreet$Law", "steps", "[I", false)
  | 3 => ("ForgivenStreet$Law", "size", "I", false)
  | 4 => ("ForgivenStreet$Law", "draft", "[I", false)
  | 5 => ("ForgivenStreet$Law", "drafted", "I", false)
  | 6 => ("ForgivenStreet$Law", "at", "I", false)
  | 7 => ("ForgivenStreet$Law", "names", "[I", true)
  | _ => ("ForgivenStreet$Law", "stack", "[I", true)
def tyX4 : Nat → FieldType := fun k => match k with
  | 0 => .int
  | 1 => .array .int
  | 2 => .array .int
  | 3 => .int
  | 4 => .array .int
  | 5 => .int
  | 6 => .int
  | 7 => .array .int
  | _ => .array .int
abbrev wsX40 : List Cond := u_ws RX4 TX4 9
theorem nmX4 : ∀ a, a < 9 → ∀ b, b < 9 → a ≠ b → (TX4 a).2.1 ≠ (TX4 b).2.1 := by decide +kernel
theorem tyX4_ok : ∀ k, k < 9 → parseFieldDescriptor (TX4 k).2.2.1 = some (tyX4 k) := by decide +kernel
abbrev cX4_init : ByteArray := prog_6_method_1_code
def yX4_init : MethodName := ⟨RX4, "<init>", "()V"⟩
abbrev cX4_take : ByteArray := prog_6_method_2_code
def yX4_take : MethodName := ⟨RX4, "take", "(I)I"⟩
abbrev cX4_enact : ByteArray := prog_6_method_3_code
def yX4_enact : MethodName := ⟨RX4, "enact", "()I"⟩
abbrev cX4_nextByte : ByteArray := prog_6_method_4_code
def yX4_nextByte : MethodName := ⟨RX4, "nextByte", "()I"⟩
abbrev cX4_emit : ByteArray := prog_6_method_5_code
def yX4_emit : MethodName := ⟨RX4, "emit", "(I)V"⟩
abbrev cX4_readLines : ByteArray := prog_6_method_6_code
def yX4_readLines : MethodName := ⟨RX4, "readLines", "()Z"⟩
abbrev cX4_readLine : ByteArray := prog_6_method_7_code
def yX4_readLine : MethodName := ⟨RX4, "readLine", "()Z"⟩
abbrev cX4_readRank : ByteArray := prog_6_method_8_code
def yX4_readRank : MethodName := ⟨RX4, "readRank", "(II)Z"⟩
abbrev cX4_readOperand : ByteArray := prog_6_method_9_code
def yX4_readOperand : MethodName := ⟨RX4, "readOperand", "(I)Z"⟩
abbrev cX4_readClosed : ByteArray := prog_6_method_10_code
def yX4_readClosed : MethodName := ⟨RX4, "readClosed", "(I)Z"⟩
abbrev cX4_readNumber : ByteArray := prog_6_method_11_code
def yX4_readNumber : MethodName := ⟨RX4, "readNumber", "()Z"⟩
abbrev cX4_isDigit : ByteArray := prog_6_method_12_code
def yX4_isDigit : MethodName := ⟨RX4, "isDigit", "(I)Z"⟩
abbrev cX4_nameOf : ByteArray := prog_6_method_13_code
def yX4_nameOf : MethodName := ⟨RX4, "nameOf", "(I)I"⟩
abbrev cX4_rankOf : ByteArray := prog_6_method_14_code
def yX4_rankOf : MethodName := ⟨RX4, "rankOf", "(I)I"⟩
abbrev cX4_tell : ByteArray := prog_6_method_15_code
def yX4_tell : MethodName := ⟨RX4, "tell", "(IIIIII)V"⟩
abbrev cX4_held : ByteArray := prog_6_method_16_code
def yX4_held : MethodName := ⟨RX4, "held", "(I)I"⟩
abbrev cX4_worth : ByteArray := prog_6_method_17_code
def yX4_worth : MethodName := ⟨RX4, "worth", "()I"⟩
abbrev cX4_joined : ByteArray := prog_6_method_18_code
def yX4_joined : MethodName := ⟨RX4, "joined", "(III)I"⟩
def RX5 : String := "ForgivenStreet$Scene"
def TX5 : u_T := fun k => match k with
  | 0 => ("ForgivenStreet$Scene", "numbers", "[I", true)
  | 1 => ("ForgivenStreet$Scene", "days", "[I", true)
  | 2 => ("ForgivenStreet$Scene", "led", "[I", true)
  | 3 => ("ForgivenStreet$Scene", "forgiven", "I", false)
  | _ => ("ForgivenStreet$Scene", "today", "I", false)
def tyX5 : Nat → FieldType := fun k => match k with
  | 0 => .array .int
  | 1 => .array .int
  | 2 => .array .int
  | 3 => .int
  | _ => .int
abbrev wsX50 : List Cond := u_ws RX5 TX5 5
theorem nmX5 : ∀ a, a < 5 → ∀ b, b < 5 → a ≠ b → (TX5 a).2.1 ≠ (TX5 b).2.1 := by decide +kernel
theorem tyX5_ok : ∀ k, k < 5 → parseFieldDescriptor (TX5 k).2.2.1 = some (tyX5 k) := by decide +kernel
abbrev cX5_init : ByteArray := prog_7_method_1_code
def yX5_init : MethodName := ⟨RX5, "<init>", "()V"⟩
abbrev cX5_become : ByteArray := prog_7_method_2_code
def yX5_become : MethodName := ⟨RX5, "become", "(LForgivenStreet$Scene;)V"⟩
abbrev cX5_becomeUpTo : ByteArray := prog_7_method_3_code
def yX5_becomeUpTo : MethodName := ⟨RX5, "becomeUpTo", "(LForgivenStreet$Scene;I)V"⟩
abbrev cX5_isForgiven : ByteArray := prog_7_method_4_code
def yX5_isForgiven : MethodName := ⟨RX5, "isForgiven", "(I)Z"⟩
abbrev cX5_setForgiven : ByteArray := prog_7_method_5_code
def yX5_setForgiven : MethodName := ⟨RX5, "setForgiven", "(IZ)V"⟩
abbrev cX5_doAgain : ByteArray := prog_7_method_6_code
def yX5_doAgain : MethodName := ⟨RX5, "doAgain", "(I)V"⟩
abbrev cX5_pass : ByteArray := prog_7_method_7_code
def yX5_pass : MethodName := ⟨RX5, "pass", "(I)V"⟩
abbrev cX5_total : ByteArray := prog_7_method_8_code
def yX5_total : MethodName := ⟨RX5, "total", "()I"⟩
abbrev cX5_alike : ByteArray := prog_7_method_9_code
def yX5_alike : MethodName := ⟨RX5, "alike", "()I"⟩
abbrev cX5_firstBreak : ByteArray := prog_7_method_10_code
def yX5_firstBreak : MethodName := ⟨RX5, "firstBreak", "()I"⟩
abbrev cX5_lastBreak : ByteArray := prog_7_method_11_code
def yX5_lastBreak : MethodName := ⟨RX5, "lastBreak", "()I"⟩
def RX6 : String := "ForgivenStreet$Shelves"
def TX6 : u_T := fun k => match k with
  | 0 => ("ForgivenStreet$Shelves", "rows", "[[J", true)
  | 1 => ("ForgivenStreet$Shelves", "sizes", "[I", true)
  | 2 => ("ForgivenStreet$Shelves", "holds", "[I", true)
  | _ => ("ForgivenStreet$Shelves", "held", "[I", true)
def tyX6 : Nat → FieldType := fun k => match k with
  | 0 => .array (.array .long)
  | 1 => .array .int
  | 2 => .array .int
  | _ => .array .int
abbrev wsX60 : List Cond := u_ws RX6 TX6 4
theorem nmX6 : ∀ a, a < 4 → ∀ b, b < 4 → a ≠ b → (TX6 a).2.1 ≠ (TX6 b).2.1 := by decide +kernel
theorem tyX6_ok : ∀ k, k < 4 → parseFieldDescriptor (TX6 k).2.2.1 = some (tyX6 k) := by decide +kernel
abbrev cX6_init : ByteArray := prog_8_method_1_code
def yX6_init : MethodName := ⟨RX6, "<init>", "()V"⟩
abbrev cX6_isShelf : ByteArray := prog_8_method_2_code
def yX6_isShelf : MethodName := ⟨RX6, "isShelf", "(I)Z"⟩
abbrev cX6_isSort : ByteArray := prog_8_method_3_code
def yX6_isSort : MethodName := ⟨RX6, "isSort", "(I)Z"⟩
abbrev cX6_isEmpty : ByteArray := prog_8_method_4_code
def yX6_isEmpty : MethodName := ⟨RX6, "isEmpty", "(I)Z"⟩
abbrev cX6_isDoor : ByteArray := prog_8_method_5_code
def yX6_isDoor : MethodName := ⟨RX6, "isDoor", "(I)Z"⟩
abbrev cX6_isRowOf : ByteArray := prog_8_method_6_code
def yX6_isRowOf : MethodName := ⟨RX6, "isRowOf", "(II)Z"⟩
abbrev cX6_areAlike : ByteArray := prog_8_method_7_code
def yX6_areAlike : MethodName := ⟨RX6, "areAlike", "(II)Z"⟩
abbrev cX6_refusal : ByteArray := prog_8_method_8_code
def yX6_refusal : MethodName := ⟨RX6, "refusal", "(II)I"⟩
abbrev cX6_doorOn : ByteArray := prog_8_method_9_code
def yX6_doorOn : MethodName := ⟨RX6, "doorOn", "(I)I"⟩
abbrev cX6_size : ByteArray := prog_8_method_10_code
def yX6_size : MethodName := ⟨RX6, "size", "(I)I"⟩
abbrev cX6_valueAt : ByteArray := prog_8_method_11_code
def yX6_valueAt : MethodName := ⟨RX6, "valueAt", "(II)J"⟩
abbrev cX6_hasPart : ByteArray := prog_8_method_12_code
def yX6_hasPart : MethodName := ⟨RX6, "hasPart", "(III)Z"⟩
abbrev cX6_setEmpty : ByteArray := prog_8_method_13_code
def yX6_setEmpty : MethodName := ⟨RX6, "setEmpty", "(I)V"⟩
abbrev cX6_setDoor : ByteArray := prog_8_method_14_code
def yX6_setDoor : MethodName := ⟨RX6, "setDoor", "(II)V"⟩
abbrev cX6_setRow : ByteArray := prog_8_method_15_code
def yX6_setRow : MethodName := ⟨RX6, "setRow", "(III)V"⟩
abbrev cX6_store : ByteArray := prog_8_method_16_code
def yX6_store : MethodName := ⟨RX6, "store", "(IIJ)V"⟩
abbrev cX6_cut : ByteArray := prog_8_method_17_code
def yX6_cut : MethodName := ⟨RX6, "cut", "(IJ)J"⟩
abbrev cX6_copyPart : ByteArray := prog_8_method_18_code
def yX6_copyPart : MethodName := ⟨RX6, "copyPart", "(IIIII)V"⟩
def RX7 : String := "ForgivenStreet"
def TX7 : u_T := fun k => match k with
  | 0 => ("ForgivenStreet", "folk", "LForgivenStreet$Folk;", true)
  | 1 => ("ForgivenStreet", "laws", "LForgivenStreet$Law;", true)
  | 2 => ("ForgivenStreet", "now", "LForgivenStreet$Scene;", true)
  | 3 => ("ForgivenStreet", "thought", "LForgivenStreet$Scene;", true)
  | 4 => ("ForgivenStreet", "kept", "LForgivenStreet$Scene;", true)
  | 5 => ("ForgivenStreet", "imaged", "Z", false)
  | 6 => ("ForgivenStreet", "imagedWrongs", "I", false)
  | 7 => ("ForgivenStreet", "changes", "LForgivenStreet$Changes;", true)
  | 8 => ("ForgivenStreet", "shelves", "LForgivenStreet$Shelves;", true)
  | 9 => ("ForgivenStreet", "doors", "LForgivenStreet$Doors;", true)
  | 10 => ("ForgivenStreet", "eve", "LForgivenStreet$Evening;", true)
  | 11 => ("ForgivenStreet", "found", "[I", true)
  | 12 => ("ForgivenStreet", "lengths", "[I", true)
  | 13 => ("ForgivenStreet", "masks", "[I", true)
  | _ => ("ForgivenStreet", "nexts", "[I", true)
def tyX7 : Nat → FieldType := fun k => match k with
  | 0 => .object "ForgivenStreet$Folk"
  | 1 => .object "ForgivenStreet$Law"
  | 2 => .object "ForgivenStreet$Scene"
  | 3 => .object "ForgivenStreet$Scene"
  | 4 => .object "ForgivenStreet$Scene"
  | 5 => .boolean
  | 6 => .int
  | 7 => .object "ForgivenStreet$Changes"
  | 8 => .object "ForgivenStreet$Shelves"
  | 9 => .object "ForgivenStreet$Doors"
  | 10 => .object "ForgivenStreet$Evening"
  | 11 => .array .int
  | 12 => .array .int
  | 13 => .array .int
  | _ => .array .int
abbrev wsX70 : List Cond := u_ws RX7 TX7 15
theorem nmX7 : ∀ a, a < 15 → ∀ b, b < 15 → a ≠ b → (TX7 a).2.1 ≠ (TX7 b).2.1 := by decide +kernel
theorem tyX7_ok : ∀ k, k < 15 → parseFieldDescriptor (TX7 k).2.2.1 = some (tyX7 k) := by decide +kernel
abbrev cX7_init : ByteArray := prog_1_method_1_code
def yX7_init : MethodName := ⟨RX7, "<init>", "()V"⟩
abbrev cX7_person : ByteArray := prog_1_method_2_code
def yX7_person : MethodName := ⟨RX7, "person", "(I)I"⟩
abbrev cX7_wrong : ByteArray := prog_1_method_3_code
def yX7_wrong : MethodName := ⟨RX7, "wrong", "(II)I"⟩
abbrev cX7_wrongs : ByteArray := prog_1_method_4_code
def yX7_wrongs : MethodName := ⟨RX7, "wrongs", "(III)I"⟩
abbrev cX7_mend : ByteArray := prog_1_method_5_code
def yX7_mend : MethodName := ⟨RX7, "mend", "(III)I"⟩
abbrev cX7_of : ByteArray := prog_1_method_6_code
def yX7_of : MethodName := ⟨RX7, "of", "(II)I"⟩
abbrev cX7_feed : ByteArray := prog_1_method_7_code
def yX7_feed : MethodName := ⟨RX7, "feed", "(I)I"⟩
abbrev cX7_law : ByteArray := prog_1_method_8_code
def yX7_law : MethodName := ⟨RX7, "law", "()I"⟩
abbrev cX7_counts : ByteArray := prog_1_method_9_code
def yX7_counts : MethodName := ⟨RX7, "counts", "(II)I"⟩
abbrev cX7_later : ByteArray := prog_1_method_10_code
def yX7_later : MethodName := ⟨RX7, "later", "(III)I"⟩
abbrev cX7_street : ByteArray := prog_1_method_11_code
def yX7_street : MethodName := ⟨RX7, "street", "(III)I"⟩
abbrev cX7_run : ByteArray := prog_1_method_12_code
def yX7_run : MethodName := ⟨RX7, "run", "(I)I"⟩
abbrev cX7_fewest : ByteArray := prog_1_method_13_code
def yX7_fewest : MethodName := ⟨RX7, "fewest", "(I)I"⟩
abbrev cX7_all : ByteArray := prog_1_method_14_code
def yX7_all : MethodName := ⟨RX7, "all", "(I)I"⟩
abbrev cX7_evening : ByteArray := prog_1_method_15_code
def yX7_evening : MethodName := ⟨RX7, "evening", "(I)I"⟩
abbrev cX7_ring : ByteArray := prog_1_method_16_code
def yX7_ring : MethodName := ⟨RX7, "ring", "()I"⟩
abbrev cX7_owes : ByteArray := prog_1_method_17_code
def yX7_owes : MethodName := ⟨RX7, "owes", "(I)I"⟩
abbrev cX7_post : ByteArray := prog_1_method_18_code
def yX7_post : MethodName := ⟨RX7, "post", "(II)I"⟩
abbrev cX7_nearest : ByteArray := prog_1_method_19_code
def yX7_nearest : MethodName := ⟨RX7, "nearest", "(I)I"⟩
abbrev cX7_chosen : ByteArray := prog_1_method_20_code
def yX7_chosen : MethodName := ⟨RX7, "chosen", "(I)I"⟩
abbrev cX7_judge : ByteArray := prog_1_method_21_code
def yX7_judge : MethodName := ⟨RX7, "judge", "(II)I"⟩
abbrev cX7_fits : ByteArray := prog_1_method_22_code
def yX7_fits : MethodName := ⟨RX7, "fits", "(IIII)I"⟩
abbrev cX7_byTurns : ByteArray := prog_1_method_23_code
def yX7_byTurns : MethodName := ⟨RX7, "byTurns", "(III)I"⟩
abbrev cX7_drawn : ByteArray := prog_1_method_24_code
def yX7_drawn : MethodName := ⟨RX7, "drawn", "(III)I"⟩
abbrev cX7_call : ByteArray := prog_1_method_25_code
def yX7_call : MethodName := ⟨RX7, "call", "(II)I"⟩
abbrev cX7_again : ByteArray := prog_1_method_26_code
def yX7_again : MethodName := ⟨RX7, "again", "(I)I"⟩
abbrev cX7_days : ByteArray := prog_1_method_27_code
def yX7_days : MethodName := ⟨RX7, "days", "(I)I"⟩
abbrev cX7_slam : ByteArray := prog_1_method_28_code
def yX7_slam : MethodName := ⟨RX7, "slam", "(I)I"⟩
abbrev cX7_led : ByteArray := prog_1_method_29_code
def yX7_led : MethodName := ⟨RX7, "led", "(I)I"⟩
abbrev cX7_image : ByteArray := prog_1_method_30_code
def yX7_image : MethodName := ⟨RX7, "image", "()I"⟩
abbrev cX7_back : ByteArray := prog_1_method_31_code
def yX7_back : MethodName := ⟨RX7, "back", "()I"⟩
abbrev cX7_undo : ByteArray := prog_1_method_32_code
def yX7_undo : MethodName := ⟨RX7, "undo", "()I"⟩
abbrev cX7_redo : ByteArray := prog_1_method_33_code
def yX7_redo : MethodName := ⟨RX7, "redo", "()I"⟩
abbrev cX7_body : ByteArray := prog_1_method_34_code
def yX7_body : MethodName := ⟨RX7, "body", "(I)I"⟩
abbrev cX7_act : ByteArray := prog_1_method_35_code
def yX7_act : MethodName := ⟨RX7, "act", "(III)I"⟩
abbrev cX7_trace : ByteArray := prog_1_method_36_code
def yX7_trace : MethodName := ⟨RX7, "trace", "(I)I"⟩
abbrev cX7_keep : ByteArray := prog_1_method_37_code
def yX7_keep : MethodName := ⟨RX7, "keep", "(II)I"⟩
abbrev cX7_row : ByteArray := prog_1_method_38_code
def yX7_row : MethodName := ⟨RX7, "row", "(III)I"⟩
abbrev cX7_put : ByteArray := prog_1_method_39_code
def yX7_put : MethodName := ⟨RX7, "put", "(IIJ)I"⟩
abbrev cX7_element : ByteArray := prog_1_method_40_code
def yX7_element : MethodName := ⟨RX7, "element", "(II)J"⟩
abbrev cX7_shift : ByteArray := prog_1_method_41_code
def yX7_shift : MethodName := ⟨RX7, "shift", "(IIIII)I"⟩
abbrev cX7_taken : ByteArray := prog_1_method_42_code
def yX7_taken : MethodName := ⟨RX7, "taken", "(II)I"⟩
abbrev cX7_count : ByteArray := prog_1_method_43_code
def yX7_count : MethodName := ⟨RX7, "count", "(I)I"⟩
abbrev cX7_isHouse : ByteArray := prog_1_method_44_code
def yX7_isHouse : MethodName := ⟨RX7, "isHouse", "(I)Z"⟩
abbrev cX7_isCalls : ByteArray := prog_1_method_45_code
def yX7_isCalls : MethodName := ⟨RX7, "isCalls", "(I)Z"⟩
abbrev cX7_areShelves : ByteArray := prog_1_method_46_code
def yX7_areShelves : MethodName := ⟨RX7, "areShelves", "(I)Z"⟩
abbrev cX7_paintedRefusal : ByteArray := prog_1_method_47_code
def yX7_paintedRefusal : MethodName := ⟨RX7, "paintedRefusal", "(I)I"⟩
abbrev cX7_placeRefusal : ByteArray := prog_1_method_48_code
def yX7_placeRefusal : MethodName := ⟨RX7, "placeRefusal", "(II)I"⟩
abbrev cX7_isThere : ByteArray := prog_1_method_49_code
def yX7_isThere : MethodName := ⟨RX7, "isThere", "(II)Z"⟩
abbrev cX7_valueOf : ByteArray := prog_1_method_50_code
def yX7_valueOf : MethodName := ⟨RX7, "valueOf", "(II)I"⟩
abbrev cX7_setValue : ByteArray := prog_1_method_51_code
def yX7_setValue : MethodName := ⟨RX7, "setValue", "(III)V"⟩
abbrev cX7_addWrong : ByteArray := prog_1_method_52_code
def yX7_addWrong : MethodName := ⟨RX7, "addWrong", "(III)I"⟩
abbrev cX7_worth : ByteArray := prog_1_method_53_code
def yX7_worth : MethodName := ⟨RX7, "worth", "(LForgivenStreet$Scene;II)I"⟩
abbrev cX7_forgive : ByteArray := prog_1_method_54_code
def yX7_forgive : MethodName := ⟨RX7, "forgive", "(LForgivenStreet$Scene;II)I"⟩
abbrev cX7_callsOn : ByteArray := prog_1_method_55_code
def yX7_callsOn : MethodName := ⟨RX7, "callsOn", "(I)I"⟩
abbrev cX7_callOf : ByteArray := prog_1_method_56_code
def yX7_callOf : MethodName := ⟨RX7, "callOf", "(II)I"⟩
abbrev cX7_think : ByteArray := prog_1_method_57_code
def yX7_think : MethodName := ⟨RX7, "think", "(II)I"⟩
abbrev cX7_firstUnlike : ByteArray := prog_1_method_58_code
def yX7_firstUnlike : MethodName := ⟨RX7, "firstUnlike", "(III)I"⟩
abbrev cX7_longestRise : ByteArray := prog_1_method_59_code
def yX7_longestRise : MethodName := ⟨RX7, "longestRise", "()I"⟩
abbrev cX7_searchFewest : ByteArray := prog_1_method_60_code
def yX7_searchFewest : MethodName := ⟨RX7, "searchFewest", "()I"⟩
abbrev cX7_mendsIn : ByteArray := prog_1_method_61_code
def yX7_mendsIn : MethodName := ⟨RX7, "mendsIn", "(II)Z"⟩
abbrev cX7_stepsHome : ByteArray := prog_1_method_62_code
def yX7_stepsHome : MethodName := ⟨RX7, "stepsHome", "(I)I"⟩
abbrev cX7_nearestFree : ByteArray := prog_1_method_63_code
def yX7_nearestFree : MethodName := ⟨RX7, "nearestFree", "(II)I"⟩
abbrev cX7_playAlone : ByteArray := prog_1_method_64_code
def yX7_playAlone : MethodName := ⟨RX7, "playAlone", "(II)V"⟩
abbrev cX7_numberBehind : ByteArray := prog_1_method_65_code
def yX7_numberBehind : MethodName := ⟨RX7, "numberBehind", "(III)I"⟩
abbrev cX7_mostOf : ByteArray := prog_1_method_66_code
def yX7_mostOf : MethodName := ⟨RX7, "mostOf", "(II)I"⟩
abbrev cX7_liveDay : ByteArray := prog_1_method_67_code
def yX7_liveDay : MethodName := ⟨RX7, "liveDay", "(I)V"⟩
def RX8 : String := "ForgivenStreetModel"
def TX8 : u_T := fun k => match k with
  | 0 => ("ForgivenStreetModel", "number", "[I", true)
  | 1 => ("ForgivenStreetModel", "people", "I", false)
  | 2 => ("ForgivenStreetModel", "home", "[I", true)
  | 3 => ("ForgivenStreetModel", "heart", "[I", true)
  | 4 => ("ForgivenStreetModel", "many", "I", false)
  | 5 => ("ForgivenStreetModel", "by", "[I", true)
  | 6 => ("ForgivenStreetModel", "to", "[I", true)
  | 7 => ("ForgivenStreetModel", "weight", "[I", true)
  | 8 => ("ForgivenStreetModel", "on", "[I", true)
  | 9 => ("ForgivenStreetModel", "forgiven", "[I", true)
  | 10 => ("ForgivenStreetModel", "today", "I", false)
  | 11 => ("ForgivenStreetModel", "taped", "I", false)
  | 12 => ("ForgivenStreetModel", "tape", "[I", true)
  | 13 => ("ForgivenStreetModel", "isTold", "Z", false)
  | 14 => ("ForgivenStreetModel", "lines", "I", false)
  | 15 => ("ForgivenStreetModel", "asks", "[I", true)
  | 16 => ("ForgivenStreetModel", "says", "[I", true)
  | 17 => ("ForgivenStreetModel", "ends", "[I", true)
  | 18 => ("ForgivenStreetModel", "code", "[I", true)
  | 19 => ("ForgivenStreetModel", "at", "I", false)
  | 20 => ("ForgivenStreetModel", "open", "I", false)
  | 21 => ("ForgivenStreetModel", "coded", "I", false)
  | 22 => ("ForgivenStreetModel", "newLines", "I", false)
  | 23 => ("ForgivenStreetModel", "newAsks", "[I", true)
  | 24 => ("ForgivenStreetModel", "newSays", "[I", true)
  | 25 => ("ForgivenStreetModel", "newEnds", "[I", true)
  | 26 => ("ForgivenStreetModel", "newCode", "[I", true)
  | 27 => ("ForgivenStreetModel", "stack", "[I", true)
  | 28 => ("ForgivenStreetModel", "names", "[I", true)
  | 29 => ("ForgivenStreetModel", "led", "[I", true)
  | 30 => ("ForgivenStreetModel", "imaged", "Z", false)
  | 31 => ("ForgivenStreetModel", "oldMany", "I", false)
  | 32 => ("ForgivenStreetModel", "old", "[I", true)
  | 33 => ("ForgivenStreetModel", "oldLed", "[I", true)
  | 34 => ("ForgivenStreetModel", "changes", "I", false)
  | 35 => ("ForgivenStreetModel", "done", "I", false)
  | 36 => ("ForgivenStreetModel", "changed", "[I", true)
  | 37 => ("ForgivenStreetModel", "bodies", "I", false)
  | 38 => ("ForgivenStreetModel", "bodyKind", "[I", true)
  | 39 => ("ForgivenStreetModel", "traced", "I", false)
  | 40 => ("ForgivenStreetModel", "traces", "[I", true)
  | 41 => ("ForgivenStreetModel", "holding", "[I", true)
  | 42 => ("ForgivenStreetModel", "rowLength", "[I", true)
  | 43 => ("ForgivenStreetModel", "rowOf", "[J", true)
  | 44 => ("ForgivenStreetModel", "was", "[I", true)
  | 45 => ("ForgivenStreetModel", "begun", "[I", true)
  | 46 => ("ForgivenStreetModel", "given", "[I", true)
  | _ => ("ForgivenStreetModel", "chose", "[I", true)
def tyX8 : Nat → FieldType := fun k => match k with
  | 0 => .array .int
  | 1 => .int
  | 2 => .array .int
  | 3 => .array .int
  | 4 => .int
  | 5 => .array .int
  | 6 => .array .int
  | 7 => .array .int
  | 8 => .array .int
  | 9 => .array .int
  | 10 => .int
  | 11 => .int
  | 12 => .array .int
  | 13 => .boolean
  | 14 => .int
  | 15 => .array .int
  | 16 => .array .int
  | 17 => .array .int
  | 18 => .array .int
  | 19 => .int
  | 20 => .int
  | 21 => .int
  | 22 => .int
  | 23 => .array .int
  | 24 => .array .int
  | 25 => .array .int
  | 26 => .array .int
  | 27 => .array .int
  | 28 => .array .int
  | 29 => .array .int
  | 30 => .boolean
  | 31 => .int
  | 32 => .array .int
  | 33 => .array .int
  | 34 => .int
  | 35 => .int
  | 36 => .array .int
  | 37 => .int
  | 38 => .array .int
  | 39 => .int
  | 40 => .array .int
  | 41 => .array .int
  | 42 => .array .int
  | 43 => .array .long
  | 44 => .array .int
  | 45 => .array .int
  | 46 => .array .int
  | _ => .array .int
abbrev wsX80 : List Cond := u_ws RX8 TX8 48
theorem nmX8 : ∀ a, a < 48 → ∀ b, b < 48 → a ≠ b → (TX8 a).2.1 ≠ (TX8 b).2.1 := by decide +kernel
theorem tyX8_ok : ∀ k, k < 48 → parseFieldDescriptor (TX8 k).2.2.1 = some (tyX8 k) := by decide +kernel
abbrev cX8_init : ByteArray := prog_10_method_1_code
def yX8_init : MethodName := ⟨RX8, "<init>", "()V"⟩
abbrev cX8_within : ByteArray := prog_10_method_2_code
def yX8_within : MethodName := ⟨RX8, "within", "(III)Z"⟩
abbrev cX8_isHouse : ByteArray := prog_10_method_3_code
def yX8_isHouse : MethodName := ⟨RX8, "isHouse", "(I)Z"⟩
abbrev cX8_isOne : ByteArray := prog_10_method_4_code
def yX8_isOne : MethodName := ⟨RX8, "isOne", "(I)Z"⟩
abbrev cX8_isWrong : ByteArray := prog_10_method_5_code
def yX8_isWrong : MethodName := ⟨RX8, "isWrong", "(I)Z"⟩
abbrev cX8_isShelf : ByteArray := prog_10_method_6_code
def yX8_isShelf : MethodName := ⟨RX8, "isShelf", "(I)Z"⟩
abbrev cX8_person : ByteArray := prog_10_method_7_code
def yX8_person : MethodName := ⟨RX8, "person", "(I)I"⟩
abbrev cX8_isSuch : ByteArray := prog_10_method_8_code
def yX8_isSuch : MethodName := ⟨RX8, "isSuch", "(III)Z"⟩
abbrev cX8_newWrong : ByteArray := prog_10_method_9_code
def yX8_newWrong : MethodName := ⟨RX8, "newWrong", "(III)I"⟩
abbrev cX8_wrong : ByteArray := prog_10_method_10_code
def yX8_wrong : MethodName := ⟨RX8, "wrong", "(II)I"⟩
abbrev cX8_wrongs : ByteArray := prog_10_method_11_code
def yX8_wrongs : MethodName := ⟨RX8, "wrongs", "(III)I"⟩
abbrev cX8_toldAt : ByteArray := prog_10_method_12_code
def yX8_toldAt : MethodName := ⟨RX8, "toldAt", "(II)I"⟩
abbrev cX8_isOf : ByteArray := prog_10_method_13_code
def yX8_isOf : MethodName := ⟨RX8, "isOf", "(II)Z"⟩
abbrev cX8_isFit : ByteArray := prog_10_method_14_code
def yX8_isFit : MethodName := ⟨RX8, "isFit", "(II)Z"⟩
abbrev cX8_get : ByteArray := prog_10_method_15_code
def yX8_get : MethodName := ⟨RX8, "get", "(II)I"⟩
abbrev cX8_becomes : ByteArray := prog_10_method_16_code
def yX8_becomes : MethodName := ⟨RX8, "becomes", "(III)V"⟩
abbrev cX8_mend : ByteArray := prog_10_method_17_code
def yX8_mend : MethodName := ⟨RX8, "mend", "(III)I"⟩
abbrev cX8_of : ByteArray := prog_10_method_18_code
def yX8_of : MethodName := ⟨RX8, "of", "(II)I"⟩
abbrev cX8_undo : ByteArray := prog_10_method_19_code
def yX8_undo : MethodName := ⟨RX8, "undo", "()I"⟩
abbrev cX8_redo : ByteArray := prog_10_method_20_code
def yX8_redo : MethodName := ⟨RX8, "redo", "()I"⟩
abbrev cX8_feed : ByteArray := prog_10_method_21_code
def yX8_feed : MethodName := ⟨RX8, "feed", "(I)I"⟩
abbrev cX8_sign : ByteArray := prog_10_method_22_code
def yX8_sign : MethodName := ⟨RX8, "sign", "()I"⟩
abbrev cX8_is : ByteArray := prog_10_method_23_code
def yX8_is : MethodName := ⟨RX8, "is", "(I)Z"⟩
abbrev cX8_codes : ByteArray := prog_10_method_24_code
def yX8_codes : MethodName := ⟨RX8, "codes", "(I)Z"⟩
abbrev cX8_isDigit : ByteArray := prog_10_method_25_code
def yX8_isDigit : MethodName := ⟨RX8, "isDigit", "()Z"⟩
abbrev cX8_nameOf : ByteArray := prog_10_method_26_code
def yX8_nameOf : MethodName := ⟨RX8, "nameOf", "(I)I"⟩
abbrev cX8_isO : ByteArray := prog_10_method_27_code
def yX8_isO : MethodName := ⟨RX8, "isO", "()Z"⟩
abbrev cX8_isP : ByteArray := prog_10_method_28_code
def yX8_isP : MethodName := ⟨RX8, "isP", "()Z"⟩
abbrev cX8_isS : ByteArray := prog_10_method_29_code
def yX8_isS : MethodName := ⟨RX8, "isS", "()Z"⟩
abbrev cX8_isB : ByteArray := prog_10_method_30_code
def yX8_isB : MethodName := ⟨RX8, "isB", "()Z"⟩
abbrev cX8_isA : ByteArray := prog_10_method_31_code
def yX8_isA : MethodName := ⟨RX8, "isA", "()Z"⟩
abbrev cX8_isE : ByteArray := prog_10_method_32_code
def yX8_isE : MethodName := ⟨RX8, "isE", "()Z"⟩
abbrev cX8_isLine : ByteArray := prog_10_method_33_code
def yX8_isLine : MethodName := ⟨RX8, "isLine", "()Z"⟩
abbrev cX8_law : ByteArray := prog_10_method_34_code
def yX8_law : MethodName := ⟨RX8, "law", "()I"⟩
abbrev cX8_both : ByteArray := prog_10_method_35_code
def yX8_both : MethodName := ⟨RX8, "both", "(III)I"⟩
abbrev cX8_worked : ByteArray := prog_10_method_36_code
def yX8_worked : MethodName := ⟨RX8, "worked", "(II)I"⟩
abbrev cX8_sees : ByteArray := prog_10_method_37_code
def yX8_sees : MethodName := ⟨RX8, "sees", "(II)I"⟩
abbrev cX8_ago : ByteArray := prog_10_method_38_code
def yX8_ago : MethodName := ⟨RX8, "ago", "(I)I"⟩
abbrev cX8_byLaw : ByteArray := prog_10_method_39_code
def yX8_byLaw : MethodName := ⟨RX8, "byLaw", "(II)I"⟩
abbrev cX8_countOf : ByteArray := prog_10_method_40_code
def yX8_countOf : MethodName := ⟨RX8, "countOf", "(II)I"⟩
abbrev cX8_counts : ByteArray := prog_10_method_41_code
def yX8_counts : MethodName := ⟨RX8, "counts", "(II)I"⟩
abbrev cX8_calls : ByteArray := prog_10_method_42_code
def yX8_calls : MethodName := ⟨RX8, "calls", "(II)I"⟩
abbrev cX8_keeps : ByteArray := prog_10_method_43_code
def yX8_keeps : MethodName := ⟨RX8, "keeps", "([I)V"⟩
abbrev cX8_laysBack : ByteArray := prog_10_method_44_code
def yX8_laysBack : MethodName := ⟨RX8, "laysBack", "([I)V"⟩
abbrev cX8_noCalls : ByteArray := prog_10_method_45_code
def yX8_noCalls : MethodName := ⟨RX8, "noCalls", "(I)I"⟩
abbrev cX8_callsOf : ByteArray := prog_10_method_46_code
def yX8_callsOf : MethodName := ⟨RX8, "callsOf", "(I)I"⟩
abbrev cX8_goes : ByteArray := prog_10_method_47_code
def yX8_goes : MethodName := ⟨RX8, "goes", "(II)I"⟩
abbrev cX8_later : ByteArray := prog_10_method_48_code
def yX8_later : MethodName := ⟨RX8, "later", "(III)I"⟩
abbrev cX8_allForgiven : ByteArray := prog_10_method_49_code
def yX8_allForgiven : MethodName := ⟨RX8, "allForgiven", "()I"⟩
abbrev cX8_allNumbers : ByteArray := prog_10_method_50_code
def yX8_allNumbers : MethodName := ⟨RX8, "allNumbers", "()I"⟩
abbrev cX8_alike : ByteArray := prog_10_method_51_code
def yX8_alike : MethodName := ⟨RX8, "alike", "()I"⟩
abbrev cX8_street : ByteArray := prog_10_method_52_code
def yX8_street : MethodName := ⟨RX8, "street", "(III)I"⟩
abbrev cX8_rises : ByteArray := prog_10_method_53_code
def yX8_rises : MethodName := ⟨RX8, "rises", "(I)Z"⟩
abbrev cX8_run : ByteArray := prog_10_method_54_code
def yX8_run : MethodName := ⟨RX8, "run", "(I)I"⟩
abbrev cX8_isInOrder : ByteArray := prog_10_method_55_code
def yX8_isInOrder : MethodName := ⟨RX8, "isInOrder", "()Z"⟩
abbrev cX8_isEnough : ByteArray := prog_10_method_56_code
def yX8_isEnough : MethodName := ⟨RX8, "isEnough", "(II)Z"⟩
abbrev cX8_fewest : ByteArray := prog_10_method_57_code
def yX8_fewest : MethodName := ⟨RX8, "fewest", "(I)I"⟩
abbrev cX8_all : ByteArray := prog_10_method_58_code
def yX8_all : MethodName := ⟨RX8, "all", "(I)I"⟩
abbrev cX8_atOnce : ByteArray := prog_10_method_59_code
def yX8_atOnce : MethodName := ⟨RX8, "atOnce", "(I)I"⟩
abbrev cX8_evening : ByteArray := prog_10_method_60_code
def yX8_evening : MethodName := ⟨RX8, "evening", "(I)I"⟩
abbrev cX8_ring : ByteArray := prog_10_method_61_code
def yX8_ring : MethodName := ⟨RX8, "ring", "()I"⟩
abbrev cX8_owes : ByteArray := prog_10_method_62_code
def yX8_owes : MethodName := ⟨RX8, "owes", "(I)I"⟩
abbrev cX8_post : ByteArray := prog_10_method_63_code
def yX8_post : MethodName := ⟨RX8, "post", "(II)I"⟩
abbrev cX8_nearestTo : ByteArray := prog_10_method_64_code
def yX8_nearestTo : MethodName := ⟨RX8, "nearestTo", "(II)I"⟩
abbrev cX8_nearest : ByteArray := prog_10_method_65_code
def yX8_nearest : MethodName := ⟨RX8, "nearest", "(I)I"⟩
abbrev cX8_chosen : ByteArray := prog_10_method_66_code
def yX8_chosen : MethodName := ⟨RX8, "chosen", "(I)I"⟩
abbrev cX8_noRows : ByteArray := prog_10_method_67_code
def yX8_noRows : MethodName := ⟨RX8, "noRows", "(I)I"⟩
abbrev cX8_unlike : ByteArray := prog_10_method_68_code
def yX8_unlike : MethodName := ⟨RX8, "unlike", "(II)I"⟩
abbrev cX8_judge : ByteArray := prog_10_method_69_code
def yX8_judge : MethodName := ⟨RX8, "judge", "(II)I"⟩
abbrev cX8_fits : ByteArray := prog_10_method_70_code
def yX8_fits : MethodName := ⟨RX8, "fits", "(IIII)I"⟩
abbrev cX8_turnFrom : ByteArray := prog_10_method_71_code
def yX8_turnFrom : MethodName := ⟨RX8, "turnFrom", "(III)I"⟩
abbrev cX8_byTurns : ByteArray := prog_10_method_72_code
def yX8_byTurns : MethodName := ⟨RX8, "byTurns", "(III)I"⟩
abbrev cX8_passes : ByteArray := prog_10_method_73_code
def yX8_passes : MethodName := ⟨RX8, "passes", "()V"⟩
abbrev cX8_drawn : ByteArray := prog_10_method_74_code
def yX8_drawn : MethodName := ⟨RX8, "drawn", "(III)I"⟩
abbrev cX8_call : ByteArray := prog_10_method_75_code
def yX8_call : MethodName := ⟨RX8, "call", "(II)I"⟩
abbrev cX8_again : ByteArray := prog_10_method_76_code
def yX8_again : MethodName := ⟨RX8, "again", "(I)I"⟩
abbrev cX8_days : ByteArray := prog_10_method_77_code
def yX8_days : MethodName := ⟨RX8, "days", "(I)I"⟩
abbrev cX8_slam : ByteArray := prog_10_method_78_code
def yX8_slam : MethodName := ⟨RX8, "slam", "(I)I"⟩
abbrev cX8_led : ByteArray := prog_10_method_79_code
def yX8_led : MethodName := ⟨RX8, "led", "(I)I"⟩
abbrev cX8_image : ByteArray := prog_10_method_80_code
def yX8_image : MethodName := ⟨RX8, "image", "()I"⟩
abbrev cX8_back : ByteArray := prog_10_method_81_code
def yX8_back : MethodName := ⟨RX8, "back", "()I"⟩
abbrev cX8_above : ByteArray := prog_10_method_82_code
def yX8_above : MethodName := ⟨RX8, "above", "(I)I"⟩
abbrev cX8_ran : ByteArray := prog_10_method_83_code
def yX8_ran : MethodName := ⟨RX8, "ran", "(I)V"⟩
abbrev cX8_opensBy : ByteArray := prog_10_method_84_code
def yX8_opensBy : MethodName := ⟨RX8, "opensBy", "(III)I"⟩
abbrev cX8_countsBy : ByteArray := prog_10_method_85_code
def yX8_countsBy : MethodName := ⟨RX8, "countsBy", "(III)I"⟩
abbrev cX8_slamsBy : ByteArray := prog_10_method_86_code
def yX8_slamsBy : MethodName := ⟨RX8, "slamsBy", "(III)I"⟩
abbrev cX8_tells : ByteArray := prog_10_method_87_code
def yX8_tells : MethodName := ⟨RX8, "tells", "(III)I"⟩
abbrev cX8_body : ByteArray := prog_10_method_88_code
def yX8_body : MethodName := ⟨RX8, "body", "(I)I"⟩
abbrev cX8_act : ByteArray := prog_10_method_89_code
def yX8_act : MethodName := ⟨RX8, "act", "(III)I"⟩
abbrev cX8_trace : ByteArray := prog_10_method_90_code
def yX8_trace : MethodName := ⟨RX8, "trace", "(I)I"⟩
abbrev cX8_keep : ByteArray := prog_10_method_91_code
def yX8_keep : MethodName := ⟨RX8, "keep", "(II)I"⟩
abbrev cX8_row : ByteArray := prog_10_method_92_code
def yX8_row : MethodName := ⟨RX8, "row", "(III)I"⟩
abbrev cX8_isRow : ByteArray := prog_10_method_93_code
def yX8_isRow : MethodName := ⟨RX8, "isRow", "(I)Z"⟩
abbrev cX8_kept : ByteArray := prog_10_method_94_code
def yX8_kept : MethodName := ⟨RX8, "kept", "(IJ)J"⟩
abbrev cX8_put : ByteArray := prog_10_method_95_code
def yX8_put : MethodName := ⟨RX8, "put", "(IIJ)I"⟩
abbrev cX8_element : ByteArray := prog_10_method_96_code
def yX8_element : MethodName := ⟨RX8, "element", "(II)J"⟩
abbrev cX8_shift : ByteArray := prog_10_method_97_code
def yX8_shift : MethodName := ⟨RX8, "shift", "(IIIII)I"⟩
abbrev cX8_taken : ByteArray := prog_10_method_98_code
def yX8_taken : MethodName := ⟨RX8, "taken", "(II)I"⟩
abbrev cX8_count : ByteArray := prog_10_method_99_code
def yX8_count : MethodName := ⟨RX8, "count", "(I)I"⟩
def RJ6 : String := "java/lang/Integer"
def TJ6 : u_T := fun k => match k with
  | _ => ("", "", "", false)
def tyJ6 : Nat → FieldType := fun k => match k with
  | _ => .int
abbrev wsJ60 : List Cond := u_ws RJ6 TJ6 0
theorem nmJ6 : ∀ a, a < 0 → ∀ b, b < 0 → a ≠ b → (TJ6 a).2.1 ≠ (TJ6 b).2.1 := by decide +kernel
theorem tyJ6_ok : ∀ k, k < 0 → parseFieldDescriptor (TJ6 k).2.2.1 = some (tyJ6 k) := by decide +kernel
abbrev cJ6_bitCount_0f7a4 : ByteArray := prog_11_method_49_code
def yJ6_bitCount_0f7a4 : MethodName := ⟨RJ6, "bitCount", "(I)I"⟩
def RJ9 : String := "java/lang/Math"
def TJ9 : u_T := fun k => match k with
  | _ => ("", "", "", false)
def tyJ9 : Nat → FieldType := fun k => match k with
  | _ => .int
abbrev wsJ90 : List Cond := u_ws RJ9 TJ9 0
theorem nmJ9 : ∀ a, a < 0 → ∀ b, b < 0 → a ≠ b → (TJ9 a).2.1 ≠ (TJ9 b).2.1 := by decide +kernel
theorem tyJ9_ok : ∀ k, k < 0 → parseFieldDescriptor (TJ9 k).2.2.1 = some (tyJ9 k) := by decide +kernel
abbrev cJ9_abs_0f7a4 : ByteArray := prog_12_method_59_code
def yJ9_abs_0f7a4 : MethodName := ⟨RJ9, "abs", "(I)I"⟩
abbrev cJ9_max_7cf53 : ByteArray := prog_12_method_65_code
def yJ9_max_7cf53 : MethodName := ⟨RJ9, "max", "(II)I"⟩
abbrev cJ9_min_7cf53 : ByteArray := prog_12_method_69_code
def yJ9_min_7cf53 : MethodName := ⟨RJ9, "min", "(II)I"⟩
def RJ10 : String := "java/lang/System"
def TJ10 : u_T := fun k => match k with
  | _ => ("", "", "", false)
def tyJ10 : Nat → FieldType := fun k => match k with
  | _ => .int
abbrev wsJ100 : List Cond := u_ws RJ10 TJ10 0
theorem nmJ10 : ∀ a, a < 0 → ∀ b, b < 0 → a ≠ b → (TJ10 a).2.1 ≠ (TJ10 b).2.1 := by decide +kernel
theorem tyJ10_ok : ∀ k, k < 0 → parseFieldDescriptor (TJ10 k).2.2.1 = some (tyJ10 k) := by decide +kernel
def RJ7 : String := "java/util/Arrays"
def TJ7 : u_T := fun k => match k with
  | _ => ("", "", "", false)
def tyJ7 : Nat → FieldType := fun k => match k with
  | _ => .int
abbrev wsJ70 : List Cond := u_ws RJ7 TJ7 0
theorem nmJ7 : ∀ a, a < 0 → ∀ b, b < 0 → a ≠ b → (TJ7 a).2.1 ≠ (TJ7 b).2.1 := by decide +kernel
theorem tyJ7_ok : ∀ k, k < 0 → parseFieldDescriptor (TJ7 k).2.2.1 = some (tyJ7 k) := by decide +kernel
abbrev cJ7_fill_d0a16 : ByteArray := prog_14_method_101_code
def yJ7_fill_d0a16 : MethodName := ⟨RJ7, "fill", "([JJ)V"⟩
abbrev cJ7_fill_53178 : ByteArray := prog_14_method_103_code
def yJ7_fill_53178 : MethodName := ⟨RJ7, "fill", "([II)V"⟩
def RL : String := "ForgivenStreetLaw"
abbrev cL_law : ByteArray := code
def yL_law : MethodName := ⟨RL, "law", "([I)Z"⟩
abbrev vwCl : List vw_C := [(RX0, TX0, 6), (RX1, TX1, 6), (RX2, TX2, 7), (RX3, TX3, 7), (RX4, TX4, 9), (RX5, TX5, 5), (RX6, TX6, 4), (RX7, TX7, 15), (RX8, TX8, 48)]
