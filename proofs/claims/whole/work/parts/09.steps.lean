theorem i32_rem (a b : Int32) : a - a / b * b = a % b := by
  apply Int32.toInt_inj.mp
  rw [Int32.toInt_sub, Int32.toInt_mul, Int32.toInt_div, Int32.toInt_mod, Int.bmod_mul_bmod, Int.sub_bmod_bmod]
  have h1 : a.toInt - a.toInt.tdiv b.toInt * b.toInt = a.toInt.tmod b.toInt := by
    rw [Int.tmod_def, Int.mul_comm]
  rw [h1, ← Int32.toInt_mod]
  have h2 := (a % b).le_toInt
  have h3 := (a % b).toInt_lt
  rw [Int.bmod_eq_of_le] <;> omega
abbrev rmd (d : Nat) : Room := { frames := d, cells := 0, slots := 0, locals := 60 * d }
def PreB (z : Zx) (h : Hp) (U : State) : Prop := ZP z h U.heap ∧ ZK z U ∧ ZS z U U.heap ∧ ZD z
def QI (z : Zx) (ty : FieldType) (r : Int32) (h : Hp) : Array Value → State → Outcome → State → Prop := va_Qi (fun (r1 : Int32) (u : Hp) => r1 = r ∧ u = h ∧ (ty = .boolean → r = 0 ∨ r = 1)) (fun u t => ZP z u t.heap) z.2.2.2
def QL (z : Zx) (r : Int64) (h : Hp) : Array Value → State → Outcome → State → Prop := va_Ql (fun (r1 : Int64) (u : Hp) => r1 = r ∧ u = h) (fun u t => ZP z u t.heap) z.2.2.2
def QV (z : Zx) (h : Hp) : Array Value → State → Outcome → State → Prop := va_Qv (fun (u : Hp) => u = h) (fun u t => ZP z u t.heap) z.2.2.2
/-- the contract of a method at these arguments and cells: it answers r, the cells are h' then -/
def CtI (y : MethodName) (c : ByteArray) (nL : Nat) (ty : FieldType) (d : Nat) (as : List Value) (h : Hp) (r : Int32) (h' : Hp) : Prop := ∀ (l : Launch) (z : Zx), Met l y (.code y c nL (some ty) :: lw_tg) (rmd d) (va_Pc (as.map (cv z.1)) (PreB z h)) (QI z ty r h') 0 0 z.2.2.2
def CtL (y : MethodName) (c : ByteArray) (nL : Nat) (d : Nat) (as : List Value) (h : Hp) (r : Int64) (h' : Hp) : Prop := ∀ (l : Launch) (z : Zx), Met l y (.code y c nL (some .long) :: lw_tg) (rmd d) (va_Pc (as.map (cv z.1)) (PreB z h)) (QL z r h') 0 0 z.2.2.2
def CtV (y : MethodName) (c : ByteArray) (nL : Nat) (d : Nat) (as : List Value) (h : Hp) (h' : Hp) : Prop := ∀ (l : Launch) (z : Zx), Met l y (.code y c nL none :: lw_tg) (rmd d) (va_Pc (as.map (cv z.1)) (PreB z h)) (QV z h') 0 0 z.2.2.2
/-- what the tables say of a method -/
def MfI (y : MethodName) (C : String) (c : ByteArray) (nL : Nat) (ret : Option FieldType) (n : Nat) : Prop := Cond.instanceMethod y ∈ lw_tbl ∧ Cond.selects C y y ∈ lw_tbl ∧ Cond.initialized C ∈ lw_tbl ∧ Cond.code y c nL ret ∈ lw_tbl ∧ (y.cls = C ∧ y.cls ≠ "java/lang/invoke/MethodHandle" ∧ y.cls ≠ "java/lang/invoke/VarHandle" ∧ (parseMethodDescriptor y.desc).map (fun d => d.parameters.length) = some n) ∧ nL ≤ 41
def MfS (y : MethodName) (c : ByteArray) (nL : Nat) (ret : Option FieldType) (n : Nat) : Prop := Cond.static y ∈ lw_tbl ∧ Cond.initialized y.cls ∈ lw_tbl ∧ Cond.code y c nL ret ∈ lw_tbl ∧ (y.cls ≠ "java/lang/invoke/MethodHandle" ∧ y.cls ≠ "java/lang/invoke/VarHandle" ∧ (parseMethodDescriptor y.desc).map (fun d => d.parameters.length) = some n) ∧ nL ≤ 41
theorem lw_goodL {ws : List Cond} (h : ∀ w ∈ ws, w ∈ lw_tg) : GoodIn lw_tg ws := fun w hw => lw_good w (h w hw)
theorem lw_wsV {own C : String} {idx : Nat} {y : MethodName} {c : ByteArray} {nL n : Nat} {ret : Option FieldType} (hm : Cond.methodLink own idx y ∈ lw_tbl) (hf : MfI y C c nL ret n) : GoodIn lw_tg (wsV own idx C y (.code y c nL ret :: lw_tg)) := by
  obtain ⟨f1, f2, f3, f4, -⟩ := hf
  refine lw_goodL fun w hw => ?_
  rcases List.mem_append.mp hw with h | h
  · simp only [List.mem_cons, List.not_mem_nil, or_false] at h
    rcases h with rfl | rfl | rfl | rfl
    · exact tg hm rfl
    · exact tg f1 rfl
    · exact tg f2 rfl
    · exact tg f3 rfl
  · rcases List.mem_cons.mp h with rfl | h
    · exact tg f4 rfl
    · exact h
theorem lw_wsS {own : String} {idx : Nat} {y : MethodName} {c : ByteArray} {nL n : Nat} {ret : Option FieldType} (hm : Cond.methodLink own idx y ∈ lw_tbl) (hf : MfS y c nL ret n) : GoodIn lw_tg (va_wsS own idx y (.code y c nL ret :: lw_tg)) := by
  obtain ⟨f1, f2, f3, -⟩ := hf
  refine lw_goodL fun w hw => ?_
  rcases List.mem_append.mp hw with h | h
  · simp only [List.mem_cons, List.not_mem_nil, or_false] at h
    rcases h with rfl | rfl | rfl
    · exact tg hm rfl
    · exact tg f1 rfl
    · exact tg f2 rfl
  · rcases List.mem_cons.mp h with rfl | h
    · exact tg f3 rfl
    · exact h
theorem PreB_blind {z : Zx} {h : Hp} {as : List Value} : FrameBlind (va_Pc as (PreB z h)) := fun a U g mk q => ⟨q.1, q.2.1, ZK.moved (u := U) (U := U.calling g mk a) (Vm.Alike.refl U.vm) q.2.2.1, ZS.moved (u := U) (U := U.calling g mk a) (H := U.heap) (Vm.Alike.refl U.vm) q.2.2.2.1, q.2.2.2.2⟩
def RtI (x : Cx) (ty : FieldType) (r : Int32) (h' : Hp) : Prop := match x with
  | (_, _, _, _, s, _, args, below, meth, _, z, (cs, sl, _), Q) => meth.sig.returnType = some ty ∧ meth.locks = false ∧ cs = 0 ∧ sl = 0 ∧ Q = MQ below (QI z ty r h') args s 0 0 z.2.2.2
def RtL (x : Cx) (r : Int64) (h' : Hp) : Prop := match x with
  | (_, _, _, _, s, _, args, below, meth, _, z, (cs, sl, _), Q) => meth.sig.returnType = some .long ∧ meth.locks = false ∧ cs = 0 ∧ sl = 0 ∧ Q = MQ below (QL z r h') args s 0 0 z.2.2.2
def RtV (x : Cx) (h' : Hp) : Prop := match x with
  | (_, _, _, _, s, _, args, below, meth, _, z, (cs, sl, _), Q) => meth.sig.returnType = none ∧ meth.locks = false ∧ cs = 0 ∧ sl = 0 ∧ Q = MQ below (QV z h') args s 0 0 z.2.2.2
def mxI (a b : Int32) : Int32 := if a < b then b else a
def mnI (a b : Int32) : Int32 := if b < a then b else a
def abI (a : Int32) : Int32 := if 0 ≤ a then a else 0 - a
def ushr (a b : Int32) : Int32 := (a.toUInt32 >>> (b.toUInt32 &&& Int32.toUInt32 31)).toInt32
theorem SI_pos {a j n : Nat} (h : ¬ (j < 0 ∨ SI a ≤ n)) : (sh a).1 = 1 ∧ SI a = (sh a).2 := by
  unfold SI at h ⊢
  by_cases q : (sh a).1 = 1
  · exact ⟨q, by rw [if_pos q]⟩
  · rw [if_neg q] at h
    omega
theorem SI_of {a : Nat} (h : 0 < SI a) : a < 86 ∧ (sh a).1 = 1 ∧ SI a = (sh a).2 := by
  have q : (sh a).1 = 1 := by
    unfold SI at h
    split at h
    · assumption
    · omega
  exact ⟨sh_lt (by omega), q, by unfold SI; rw [if_pos q]⟩
theorem SL_of {a : Nat} (h : 0 < SL a) : a < 86 ∧ (sh a).1 = 2 ∧ SL a = (sh a).2 := by
  have q : (sh a).1 = 2 := by
    unfold SL at h
    split at h
    · assumption
    · omega
  exact ⟨sh_lt (by omega), q, by unfold SL; rw [if_pos q]⟩
theorem SR_of {a : Nat} (h : 0 < SR a) : a < 86 ∧ (sh a).1 = 3 ∧ SR a = (sh a).2 := by
  have q : (sh a).1 = 3 := by
    unfold SR at h
    split at h
    · assumption
    · omega
  exact ⟨sh_lt (by omega), q, by unfold SR; rw [if_pos q]⟩
theorem ent_i {ρ : Nat → Nat} {CA : Nat → ClassId} {h : Hp} {a : Nat} (q : (sh a).1 = 1) : ent ρ CA h a = .inl (CA a, (sh a).2, .inl (h.1 a)) := by
  unfold ent
  rw [if_neg (by omega), if_pos q]
theorem ent_l {ρ : Nat → Nat} {CA : Nat → ClassId} {h : Hp} {a : Nat} (q : (sh a).1 = 2) : ent ρ CA h a = .inl (CA a, (sh a).2, .inr (.inl (h.2.1 a))) := by
  unfold ent
  rw [if_neg (by omega), if_neg (by omega), if_pos q]
theorem ent_r {ρ : Nat → Nat} {CA : Nat → ClassId} {h : Hp} {a : Nat} (q : (sh a).1 = 3) : ent ρ CA h a = .inl (CA a, (sh a).2, .inr (.inr (.inr (.inr (fun j => if j < (sh a).2 then some (ρ (pf a j)) else none))))) := by
  unfold ent
  rw [if_neg (by omega), if_neg (by omega), if_neg (by omega)]
theorem ent_o {ρ : Nat → Nat} {CA : Nat → ClassId} {h : Hp} {a c : Nat} (q : sh a = (0, c)) : ent ρ CA h a = .inr (c, (List.range (clN c)).map (fvl ρ h c a)) := by
  unfold ent
  rw [q, if_pos rfl]
theorem wld_i {ρ : Nat → Nat} {CA : Nat → ClassId} {h : Hp} {a : Nat} {f : Nat → Int32} (ha : a < 86) (q : (sh a).1 = 1) : (wld ρ CA h).set a (ρ a, .inl (CA a, (sh a).2, .inl f)) = wld ρ CA (upI h a f) := by
  refine wld_set ha ?_ fun j hj => ?_
  · rw [ent_i q]
    show _ = _
    rw [show (upI h a f).1 a = f from if_pos rfl]
  · exact ent_congr (if_neg hj) rfl rfl
theorem wld_l {ρ : Nat → Nat} {CA : Nat → ClassId} {h : Hp} {a : Nat} {f : Nat → Int64} (ha : a < 86) (q : (sh a).1 = 2) : (wld ρ CA h).set a (ρ a, .inl (CA a, (sh a).2, .inr (.inl f))) = wld ρ CA (upL h a f) := by
  refine wld_set ha ?_ fun j hj => ?_
  · rw [ent_l q]
    show _ = _
    rw [show (upL h a f).2.1 a = f from if_pos rfl]
  · exact ent_congr rfl (if_neg hj) rfl
theorem fvl_map {ρ : Nat → Nat} {h : Hp} {c o j n : Nat} (hj : j < n) : ((List.range n).map (fvl ρ h c o))[j]? = some (fvl ρ h c o j) := by
  rw [List.getElem?_map, List.getElem?_range hj]
  rfl
theorem set_map {α : Type} {f g : Nat → α} {n j : Nat} {v : α} (hv : g j = v) (ho : ∀ i, i ≠ j → g i = f i) : ((List.range n).map f).set j v = (List.range n).map g := by
  apply List.ext_getElem?
  intro i
  by_cases hi : i < n
  · rw [List.getElem?_map, List.getElem?_range hi]
    by_cases hij : j = i
    · subst hij
      rw [List.getElem?_set_self (by simpa using hi), ← hv]
      rfl
    · rw [List.getElem?_set_ne hij, List.getElem?_map, List.getElem?_range hi]
      show some (f i) = some (g i)
      rw [ho i (fun e => hij e.symm)]
  · rw [List.getElem?_eq_none (by simp; omega), List.getElem?_eq_none (by simp; omega)]
theorem wld_o {ρ : Nat → Nat} {CA : Nat → ClassId} {h : Hp} {a c j : Nat} {v : Int32} (q : sh a = (0, c)) (hf : ft c j ≠ 1) (hf2 : ft c j ≠ 2) : (wld ρ CA h).set a (ρ a, .inr (c, ((List.range (clN c)).map (fvl ρ h c a)).set j (.int v))) = wld ρ CA (stI h a j v) := by
  refine wld_set (sh_lt (by rw [q]; exact fun e => by cases e)) ?_ fun k hk => ?_
  · rw [ent_o q]
    congr 2
    refine (set_map ?_ fun i hi => ?_).symm
    · unfold fvl
      rw [if_neg hf, if_neg hf2]
      show Value.int ((if a = a then upd (h.1 a) j v else h.1 a) j) = _
      rw [if_pos rfl]
      show Value.int (if j = j then v else h.1 a j) = _
      rw [if_pos rfl]
    · unfold fvl
      show (if ft c i = 1 then _ else if ft c i = 2 then _ else Value.int ((if a = a then upd (h.1 a) j v else h.1 a) i)) = _
      rw [if_pos rfl]
      show (if ft c i = 1 then _ else if ft c i = 2 then _ else Value.int (if i = j then v else h.1 a i)) = _
      rw [if_neg hi]
      rfl
  · exact ent_congr (if_neg hk) rfl rfl
theorem wld_r {ρ : Nat → Nat} {CA : Nat → ClassId} {h : Hp} {a c j r : Nat} (q : sh a = (0, c)) (hf2 : ft c j = 2) : (wld ρ CA h).set a (ρ a, .inr (c, ((List.range (clN c)).map (fvl ρ h c a)).set j (.ref (ρ r)))) = wld ρ CA (upR h a j r) := by
  refine wld_set (sh_lt (by rw [q]; exact fun e => by cases e)) ?_ fun k hk => ?_
  · rw [ent_o q]
    congr 2
    refine (set_map ?_ fun i hi => ?_).symm
    · unfold fvl
      rw [if_neg (by omega), if_pos hf2]
      show Value.ref (ρ (if a = a ∧ j = j then r else _)) = _
      rw [if_pos ⟨rfl, rfl⟩]
    · unfold fvl
      show (if ft c i = 1 then Value.ref (ρ (pf a i)) else if ft c i = 2 then Value.ref (ρ (if a = a ∧ i = j then r else h.2.2 a i)) else Value.int (h.1 a i)) = _
      rw [show (if a = a ∧ i = j then r else h.2.2 a i) = h.2.2 a i from if_neg (fun e => hi e.2)]
  · exact ent_congr rfl rfl (funext fun i => if_neg (fun e => hk e.1))

theorem nfw : nativeFrameWords "java/lang/System" "arraycopy" 5 = 7 := by decide +kernel
theorem st_iconst {x : Cx} {own : String} {cc : ByteArray} {nL d pc : Nat} {ls st : List Value} {h : Hp} {n : Int} {v : Int32} (g : Gx x own cc nL d) (hd : decode cc pc = .ok (.iconst n, 1)) (hv : Int32.ofInt n = v) (K : WA x (pc + 1) ls (.int v :: st) h) : WA x pc ls (st) h := by
  obtain ⟨p, l, e, R, s, m, args, below, meth, c, z, ⟨cs, sl, nL'⟩, Q⟩ := x
  obtain ⟨hx, hb, hml, hown, hts, hr, hcs, hK, hS0, hD, hnL⟩ := g
  subst hnL
  exact fun H locs lA hP hS hl => lv_iconst hx hb hd hv (K H locs lA hP hS hl)
theorem st_bipush {x : Cx} {own : String} {cc : ByteArray} {nL d pc : Nat} {ls st : List Value} {h : Hp} {n : Int} {v : Int32} (g : Gx x own cc nL d) (hd : decode cc pc = .ok (.bipush n, 2)) (hv : (Int8.ofInt n).toInt32 = v) (K : WA x (pc + 2) ls (.int v :: st) h) : WA x pc ls (st) h := by
  obtain ⟨p, l, e, R, s, m, args, below, meth, c, z, ⟨cs, sl, nL'⟩, Q⟩ := x
  obtain ⟨hx, hb, hml, hown, hts, hr, hcs, hK, hS0, hD, hnL⟩ := g
  subst hnL
  exact fun H locs lA hP hS hl => lv_bipush hx hb hd hv (K H locs lA hP hS hl)
theorem st_sipush {x : Cx} {own : String} {cc : ByteArray} {nL d pc : Nat} {ls st : List Value} {h : Hp} {n : Int} {v : Int32} (g : Gx x own cc nL d) (hd : decode cc pc = .ok (.sipush n, 3)) (hv : (Int16.ofInt n).toInt32 = v) (K : WA x (pc + 3) ls (.int v :: st) h) : WA x pc ls (st) h := by
  obtain ⟨p, l, e, R, s, m, args, below, meth, c, z, ⟨cs, sl, nL'⟩, Q⟩ := x
  obtain ⟨hx, hb, hml, hown, hts, hr, hcs, hK, hS0, hD, hnL⟩ := g
  subst hnL
  exact fun H locs lA hP hS hl => lv_sipush hx hb hd hv (K H locs lA hP hS hl)
theorem st_lconst {x : Cx} {own : String} {cc : ByteArray} {nL d pc : Nat} {ls st : List Value} {h : Hp} {n : Fin 2} {v : Int64} (g : Gx x own cc nL d) (hd : decode cc pc = .ok (.lconst n, 1)) (hv : Int64.ofNat (n : Nat) = v) (K : WA x (pc + 1) ls (.long v :: st) h) : WA x pc ls (st) h := by
  obtain ⟨p, l, e, R, s, m, args, below, meth, c, z, ⟨cs, sl, nL'⟩, Q⟩ := x
  obtain ⟨hx, hb, hml, hown, hts, hr, hcs, hK, hS0, hD, hnL⟩ := g
  subst hnL
  exact fun H locs lA hP hS hl => lv_lconst hx hb hd hv (K H locs lA hP hS hl)
theorem st_ldc {x : Cx} {own : String} {cc : ByteArray} {nL d pc : Nat} {ls st : List Value} {h : Hp} {idx : Nat} {v : Int32} (g : Gx x own cc nL d) (hd : decode cc pc = .ok (.ldc idx, 2)) (hm : Cond.constant own idx v ∈ lw_tbl) (K : WA x (pc + 2) ls (.int v :: st) h) : WA x pc ls (st) h := by
  obtain ⟨p, l, e, R, s, m, args, below, meth, c, z, ⟨cs, sl, nL'⟩, Q⟩ := x
  obtain ⟨hx, hb, hml, hown, hts, hr, hcs, hK, hS0, hD, hnL⟩ := g
  subst hnL
  exact fun H locs lA hP hS hl => lv_ldc hx hb hown (hts _ (tg hm rfl)) hd (K H locs lA hP hS hl)
theorem st_ldcw {x : Cx} {own : String} {cc : ByteArray} {nL d pc : Nat} {ls st : List Value} {h : Hp} {idx : Nat} {v : Int32} (g : Gx x own cc nL d) (hd : decode cc pc = .ok (.ldc_w idx, 3)) (hm : Cond.constant own idx v ∈ lw_tbl) (K : WA x (pc + 3) ls (.int v :: st) h) : WA x pc ls (st) h := by
  obtain ⟨p, l, e, R, s, m, args, below, meth, c, z, ⟨cs, sl, nL'⟩, Q⟩ := x
  obtain ⟨hx, hb, hml, hown, hts, hr, hcs, hK, hS0, hD, hnL⟩ := g
  subst hnL
  exact fun H locs lA hP hS hl => lv_ldcw hx hb hown (hts _ (tg hm rfl)) hd (K H locs lA hP hS hl)
theorem st_ldc2 {x : Cx} {own : String} {cc : ByteArray} {nL d pc : Nat} {ls st : List Value} {h : Hp} {idx : Nat} {v : Int64} (g : Gx x own cc nL d) (hd : decode cc pc = .ok (.ldc2_w idx, 3)) (hm : Cond.constantLong own idx v ∈ lw_tbl) (K : WA x (pc + 3) ls (.long v :: st) h) : WA x pc ls (st) h := by
  obtain ⟨p, l, e, R, s, m, args, below, meth, c, z, ⟨cs, sl, nL'⟩, Q⟩ := x
  obtain ⟨hx, hb, hml, hown, hts, hr, hcs, hK, hS0, hD, hnL⟩ := g
  subst hnL
  exact fun H locs lA hP hS hl => lv_ldc2 hx hb hown (hts _ (tg hm rfl)) hd (K H locs lA hP hS hl)
theorem st_iload_n {x : Cx} {own : String} {cc : ByteArray} {nL d pc : Nat} {ls st : List Value} {h : Hp} {k : Fin 4} {a : Int32} (g : Gx x own cc nL d) (hd : decode cc pc = .ok (.iload_n k, 1)) (hi : ls[(k : Nat)]? = some (.int a)) (K : WA x (pc + 1) ls (.int a :: st) h) : WA x pc ls (st) h := by
  obtain ⟨p, l, e, R, s, m, args, below, meth, c, z, ⟨cs, sl, nL'⟩, Q⟩ := x
  obtain ⟨hx, hb, hml, hown, hts, hr, hcs, hK, hS0, hD, hnL⟩ := g
  subst hnL
  exact fun H locs lA hP hS hl => lv_iload_n hx hb hd rfl (lvo_at hl hi (fun q => by cases q)) (K H locs lA hP hS hl)
theorem st_iload {x : Cx} {own : String} {cc : ByteArray} {nL d pc : Nat} {ls st : List Value} {h : Hp} {k : Nat} {a : Int32} (g : Gx x own cc nL d) (hd : decode cc pc = .ok (.iload k, 2)) (hi : ls[k]? = some (.int a)) (K : WA x (pc + 2) ls (.int a :: st) h) : WA x pc ls (st) h := by
  obtain ⟨p, l, e, R, s, m, args, below, meth, c, z, ⟨cs, sl, nL'⟩, Q⟩ := x
  obtain ⟨hx, hb, hml, hown, hts, hr, hcs, hK, hS0, hD, hnL⟩ := g
  subst hnL
  exact fun H locs lA hP hS hl => lv_iload hx hb hd (lvo_at hl hi (fun q => by cases q)) (K H locs lA hP hS hl)
theorem st_lload_n {x : Cx} {own : String} {cc : ByteArray} {nL d pc : Nat} {ls st : List Value} {h : Hp} {k : Fin 4} {a : Int64} (g : Gx x own cc nL d) (hd : decode cc pc = .ok (.lload_n k, 1)) (hi : ls[(k : Nat)]? = some (.long a)) (K : WA x (pc + 1) ls (.long a :: st) h) : WA x pc ls (st) h := by
  obtain ⟨p, l, e, R, s, m, args, below, meth, c, z, ⟨cs, sl, nL'⟩, Q⟩ := x
  obtain ⟨hx, hb, hml, hown, hts, hr, hcs, hK, hS0, hD, hnL⟩ := g
  subst hnL
  exact fun H locs lA hP hS hl => lv_lload_n hx hb hd rfl (lvo_at hl hi (fun q => by cases q)) (K H locs lA hP hS hl)
theorem st_lload {x : Cx} {own : String} {cc : ByteArray} {nL d pc : Nat} {ls st : List Value} {h : Hp} {k : Nat} {a : Int64} (g : Gx x own cc nL d) (hd : decode cc pc = .ok (.lload k, 2)) (hi : ls[k]? = some (.long a)) (K : WA x (pc + 2) ls (.long a :: st) h) : WA x pc ls (st) h := by
  obtain ⟨p, l, e, R, s, m, args, below, meth, c, z, ⟨cs, sl, nL'⟩, Q⟩ := x
  obtain ⟨hx, hb, hml, hown, hts, hr, hcs, hK, hS0, hD, hnL⟩ := g
  subst hnL
  exact fun H locs lA hP hS hl => lv_lload hx hb hd (lvo_at hl hi (fun q => by cases q)) (K H locs lA hP hS hl)
theorem st_aload_n {x : Cx} {own : String} {cc : ByteArray} {nL d pc : Nat} {ls st : List Value} {h : Hp} {k : Fin 4} {a : Nat} (g : Gx x own cc nL d) (hd : decode cc pc = .ok (.aload_n k, 1)) (hi : ls[(k : Nat)]? = some (.ref a)) (K : WA x (pc + 1) ls (.ref a :: st) h) : WA x pc ls (st) h := by
  obtain ⟨p, l, e, R, s, m, args, below, meth, c, z, ⟨cs, sl, nL'⟩, Q⟩ := x
  obtain ⟨hx, hb, hml, hown, hts, hr, hcs, hK, hS0, hD, hnL⟩ := g
  subst hnL
  exact fun H locs lA hP hS hl => lv_aload_n hx hb hd rfl (lvo_at hl hi (fun q => by cases q)) (K H locs lA hP hS hl)
theorem st_aload {x : Cx} {own : String} {cc : ByteArray} {nL d pc : Nat} {ls st : List Value} {h : Hp} {k : Nat} {a : Nat} (g : Gx x own cc nL d) (hd : decode cc pc = .ok (.aload k, 2)) (hi : ls[k]? = some (.ref a)) (K : WA x (pc + 2) ls (.ref a :: st) h) : WA x pc ls (st) h := by
  obtain ⟨p, l, e, R, s, m, args, below, meth, c, z, ⟨cs, sl, nL'⟩, Q⟩ := x
  obtain ⟨hx, hb, hml, hown, hts, hr, hcs, hK, hS0, hD, hnL⟩ := g
  subst hnL
  exact fun H locs lA hP hS hl => lv_aload hx hb hd (lvo_at hl hi (fun q => by cases q)) (K H locs lA hP hS hl)
theorem st_istore_n {x : Cx} {own : String} {cc : ByteArray} {nL d pc : Nat} {ls st : List Value} {h : Hp} {k : Fin 4} {a : Int32} {ls2 : List Value} (g : Gx x own cc nL d) (hd : decode cc pc = .ok (.istore_n k, 1)) (hn : (k : Nat) < nL) (ho : okl ls (k : Nat) = true) (hls : ls.set (k : Nat) (.int a) = ls2) (K : WA x (pc + 1) ls2 st h) : WA x pc ls (.int a :: st) h := by
  obtain ⟨p, l, e, R, s, m, args, below, meth, c, z, ⟨cs, sl, nL'⟩, Q⟩ := x
  obtain ⟨hx, hb, hml, hown, hts, hr, hcs, hK, hS0, hD, hnL⟩ := g
  subst hnL
  subst hls
  exact fun H locs lA hP hS hl => lv_istore_n hx hb hd rfl hl hn rfl (fun lB hl2 => K H locs lB hP hS (lvo_set (v := .int a) ho hl2))
theorem st_istore {x : Cx} {own : String} {cc : ByteArray} {nL d pc : Nat} {ls st : List Value} {h : Hp} {k : Nat} {a : Int32} {ls2 : List Value} (g : Gx x own cc nL d) (hd : decode cc pc = .ok (.istore k, 2)) (hn : k < nL) (ho : okl ls k = true) (hls : ls.set k (.int a) = ls2) (K : WA x (pc + 2) ls2 st h) : WA x pc ls (.int a :: st) h := by
  obtain ⟨p, l, e, R, s, m, args, below, meth, c, z, ⟨cs, sl, nL'⟩, Q⟩ := x
  obtain ⟨hx, hb, hml, hown, hts, hr, hcs, hK, hS0, hD, hnL⟩ := g
  subst hnL
  subst hls
  exact fun H locs lA hP hS hl => lv_istore hx hb hd hl hn rfl (fun lB hl2 => K H locs lB hP hS (lvo_set (v := .int a) ho hl2))
theorem st_astore_n {x : Cx} {own : String} {cc : ByteArray} {nL d pc : Nat} {ls st : List Value} {h : Hp} {k : Fin 4} {a : Nat} {ls2 : List Value} (g : Gx x own cc nL d) (hd : decode cc pc = .ok (.astore_n k, 1)) (hn : (k : Nat) < nL) (ho : okl ls (k : Nat) = true) (hls : ls.set (k : Nat) (.ref a) = ls2) (K : WA x (pc + 1) ls2 st h) : WA x pc ls (.ref a :: st) h := by
  obtain ⟨p, l, e, R, s, m, args, below, meth, c, z, ⟨cs, sl, nL'⟩, Q⟩ := x
  obtain ⟨hx, hb, hml, hown, hts, hr, hcs, hK, hS0, hD, hnL⟩ := g
  subst hnL
  subst hls
  exact fun H locs lA hP hS hl => lv_astore_n hx hb hd rfl hl hn rfl (fun lB hl2 => K H locs lB hP hS (lvo_set (v := .ref a) ho hl2))
theorem st_astore {x : Cx} {own : String} {cc : ByteArray} {nL d pc : Nat} {ls st : List Value} {h : Hp} {k : Nat} {a : Nat} {ls2 : List Value} (g : Gx x own cc nL d) (hd : decode cc pc = .ok (.astore k, 2)) (hn : k < nL) (ho : okl ls k = true) (hls : ls.set k (.ref a) = ls2) (K : WA x (pc + 2) ls2 st h) : WA x pc ls (.ref a :: st) h := by
  obtain ⟨p, l, e, R, s, m, args, below, meth, c, z, ⟨cs, sl, nL'⟩, Q⟩ := x
  obtain ⟨hx, hb, hml, hown, hts, hr, hcs, hK, hS0, hD, hnL⟩ := g
  subst hnL
  subst hls
  exact fun H locs lA hP hS hl => lv_astore hx hb hd hl hn rfl (fun lB hl2 => K H locs lB hP hS (lvo_set (v := .ref a) ho hl2))
theorem st_lstore_n {x : Cx} {own : String} {cc : ByteArray} {nL d pc : Nat} {ls st : List Value} {h : Hp} {k : Fin 4} {a : Int64} {ls2 : List Value} (g : Gx x own cc nL d) (hd : decode cc pc = .ok (.lstore_n k, 1)) (hn : (k : Nat) + 1 < nL) (ho : okl ls (k : Nat) = true) (hls : (ls.set (k : Nat) (.long a)).set ((k : Nat) + 1) .null = ls2) (K : WA x (pc + 1) ls2 st h) : WA x pc ls (.long a :: st) h := by
  obtain ⟨p, l, e, R, s, m, args, below, meth, c, z, ⟨cs, sl, nL'⟩, Q⟩ := x
  obtain ⟨hx, hb, hml, hown, hts, hr, hcs, hK, hS0, hD, hnL⟩ := g
  subst hnL
  subst hls
  exact fun H locs lA hP hS hl => lv_lstore_n hx hb hd rfl hl hn rfl (fun lB hl2 => K H locs lB hP hS (lvo_setL (v := .long a) ho hl2))
theorem st_lstore {x : Cx} {own : String} {cc : ByteArray} {nL d pc : Nat} {ls st : List Value} {h : Hp} {k : Nat} {a : Int64} {ls2 : List Value} (g : Gx x own cc nL d) (hd : decode cc pc = .ok (.lstore k, 2)) (hn : k + 1 < nL) (ho : okl ls k = true) (hls : (ls.set k (.long a)).set (k + 1) .null = ls2) (K : WA x (pc + 2) ls2 st h) : WA x pc ls (.long a :: st) h := by
  obtain ⟨p, l, e, R, s, m, args, below, meth, c, z, ⟨cs, sl, nL'⟩, Q⟩ := x
  obtain ⟨hx, hb, hml, hown, hts, hr, hcs, hK, hS0, hD, hnL⟩ := g
  subst hnL
  subst hls
  exact fun H locs lA hP hS hl => lv_lstore hx hb hd hl hn rfl (fun lB hl2 => K H locs lB hP hS (lvo_setL (v := .long a) ho hl2))
theorem st_iinc {x : Cx} {own : String} {cc : ByteArray} {nL d pc : Nat} {ls st : List Value} {h : Hp} {k : Nat} {n : Int} {a v : Int32} {ls2 : List Value} (g : Gx x own cc nL d) (hd : decode cc pc = .ok (.iinc k n, 3)) (hi : ls[k]? = some (.int a)) (hv : a + Int32.ofInt n = v) (hn : k < nL) (ho : okl ls k = true) (hls : ls.set k (.int v) = ls2) (K : WA x (pc + 3) ls2 st h) : WA x pc ls (st) h := by
  obtain ⟨p, l, e, R, s, m, args, below, meth, c, z, ⟨cs, sl, nL'⟩, Q⟩ := x
  obtain ⟨hx, hb, hml, hown, hts, hr, hcs, hK, hS0, hD, hnL⟩ := g
  subst hnL
  subst hls
  intro H locs lA hP hS hl
  have hm := lvo_mem (ρ := z.1) ls 0 k _ hi (fun q => by cases q)
  rw [Nat.zero_add] at hm
  obtain ⟨j, hj⟩ := List.getElem?_of_mem hm
  exact lv_iinc hx hb hd hl hj hv hn rfl (fun lB hl2 => K H locs lB hP hS (lvo_set (v := .int v) ho hl2))
theorem st_iadd {x : Cx} {own : String} {cc : ByteArray} {nL d pc : Nat} {ls st : List Value} {h : Hp} {a b : Int32} (g : Gx x own cc nL d) (hd : decode cc pc = .ok (.iadd, 1))  (K : WA x (pc + 1) ls (.int (a + b) :: st) h) : WA x pc ls (.int b :: .int a :: st) h := by
  obtain ⟨p, l, e, R, s, m, args, below, meth, c, z, ⟨cs, sl, nL'⟩, Q⟩ := x
  obtain ⟨hx, hb, hml, hown, hts, hr, hcs, hK, hS0, hD, hnL⟩ := g
  subst hnL
  exact fun H locs lA hP hS hl => lv_iadd hx hb hd (K H locs lA hP hS hl)
theorem st_isub {x : Cx} {own : String} {cc : ByteArray} {nL d pc : Nat} {ls st : List Value} {h : Hp} {a b : Int32} (g : Gx x own cc nL d) (hd : decode cc pc = .ok (.isub, 1))  (K : WA x (pc + 1) ls (.int (a - b) :: st) h) : WA x pc ls (.int b :: .int a :: st) h := by
  obtain ⟨p, l, e, R, s, m, args, below, meth, c, z, ⟨cs, sl, nL'⟩, Q⟩ := x
  obtain ⟨hx, hb, hml, hown, hts, hr, hcs, hK, hS0, hD, hnL⟩ := g
  subst hnL
  exact fun H locs lA hP hS hl => lv_isub hx hb hd (K H locs lA hP hS hl)
theorem st_imul {x : Cx} {own : String} {cc : ByteArray} {nL d pc : Nat} {ls st : List Value} {h : Hp} {a b : Int32} (g : Gx x own cc nL d) (hd : decode cc pc = .ok (.imul, 1))  (K : WA x (pc + 1) ls (.int (a * b) :: st) h) : WA x pc ls (.int b :: .int a :: st) h := by
  obtain ⟨p, l, e, R, s, m, args, below, meth, c, z, ⟨cs, sl, nL'⟩, Q⟩ := x
  obtain ⟨hx, hb, hml, hown, hts, hr, hcs, hK, hS0, hD, hnL⟩ := g
  subst hnL
  exact fun H locs lA hP hS hl => lv_imul hx hb hd (K H locs lA hP hS hl)
theorem st_iand {x : Cx} {own : String} {cc : ByteArray} {nL d pc : Nat} {ls st : List Value} {h : Hp} {a b : Int32} (g : Gx x own cc nL d) (hd : decode cc pc = .ok (.iand, 1))  (K : WA x (pc + 1) ls (.int (a &&& b) :: st) h) : WA x pc ls (.int b :: .int a :: st) h := by
  obtain ⟨p, l, e, R, s, m, args, below, meth, c, z, ⟨cs, sl, nL'⟩, Q⟩ := x
  obtain ⟨hx, hb, hml, hown, hts, hr, hcs, hK, hS0, hD, hnL⟩ := g
  subst hnL
  exact fun H locs lA hP hS hl => lv_iand hx hb hd (K H locs lA hP hS hl)
theorem st_ior {x : Cx} {own : String} {cc : ByteArray} {nL d pc : Nat} {ls st : List Value} {h : Hp} {a b : Int32} (g : Gx x own cc nL d) (hd : decode cc pc = .ok (.ior, 1))  (K : WA x (pc + 1) ls (.int (a ||| b) :: st) h) : WA x pc ls (.int b :: .int a :: st) h := by
  obtain ⟨p, l, e, R, s, m, args, below, meth, c, z, ⟨cs, sl, nL'⟩, Q⟩ := x
  obtain ⟨hx, hb, hml, hown, hts, hr, hcs, hK, hS0, hD, hnL⟩ := g
  subst hnL
  exact fun H locs lA hP hS hl => lv_ior hx hb hd (K H locs lA hP hS hl)
theorem st_ixor {x : Cx} {own : String} {cc : ByteArray} {nL d pc : Nat} {ls st : List Value} {h : Hp} {a b : Int32} (g : Gx x own cc nL d) (hd : decode cc pc = .ok (.ixor, 1))  (K : WA x (pc + 1) ls (.int (a ^^^ b) :: st) h) : WA x pc ls (.int b :: .int a :: st) h := by
  obtain ⟨p, l, e, R, s, m, args, below, meth, c, z, ⟨cs, sl, nL'⟩, Q⟩ := x
  obtain ⟨hx, hb, hml, hown, hts, hr, hcs, hK, hS0, hD, hnL⟩ := g
  subst hnL
  exact fun H locs lA hP hS hl => lv_ixor hx hb hd (K H locs lA hP hS hl)
theorem st_ishl {x : Cx} {own : String} {cc : ByteArray} {nL d pc : Nat} {ls st : List Value} {h : Hp} {a b : Int32} (g : Gx x own cc nL d) (hd : decode cc pc = .ok (.ishl, 1))  (K : WA x (pc + 1) ls (.int (a <<< (b &&& 31)) :: st) h) : WA x pc ls (.int b :: .int a :: st) h := by
  obtain ⟨p, l, e, R, s, m, args, below, meth, c, z, ⟨cs, sl, nL'⟩, Q⟩ := x
  obtain ⟨hx, hb, hml, hown, hts, hr, hcs, hK, hS0, hD, hnL⟩ := g
  subst hnL
  exact fun H locs lA hP hS hl => lv_ishl hx hb hd (K H locs lA hP hS hl)
theorem st_ishr {x : Cx} {own : String} {cc : ByteArray} {nL d pc : Nat} {ls st : List Value} {h : Hp} {a b : Int32} (g : Gx x own cc nL d) (hd : decode cc pc = .ok (.ishr, 1))  (K : WA x (pc + 1) ls (.int (a >>> (b &&& 31)) :: st) h) : WA x pc ls (.int b :: .int a :: st) h := by
  obtain ⟨p, l, e, R, s, m, args, below, meth, c, z, ⟨cs, sl, nL'⟩, Q⟩ := x
  obtain ⟨hx, hb, hml, hown, hts, hr, hcs, hK, hS0, hD, hnL⟩ := g
  subst hnL
  exact fun H locs lA hP hS hl => lv_ishr hx hb hd (K H locs lA hP hS hl)
theorem st_iushr {x : Cx} {own : String} {cc : ByteArray} {nL d pc : Nat} {ls st : List Value} {h : Hp} {a b : Int32} (g : Gx x own cc nL d) (hd : decode cc pc = .ok (.iushr, 1))  (K : WA x (pc + 1) ls (.int (ushr a b) :: st) h) : WA x pc ls (.int b :: .int a :: st) h := by
  obtain ⟨p, l, e, R, s, m, args, below, meth, c, z, ⟨cs, sl, nL'⟩, Q⟩ := x
  obtain ⟨hx, hb, hml, hown, hts, hr, hcs, hK, hS0, hD, hnL⟩ := g
  subst hnL
  exact fun H locs lA hP hS hl => lv_iushr hx hb hd rfl (K H locs lA hP hS hl)
theorem st_ineg {x : Cx} {own : String} {cc : ByteArray} {nL d pc : Nat} {ls st : List Value} {h : Hp} {a : Int32} (g : Gx x own cc nL d) (hd : decode cc pc = .ok (.ineg, 1))  (K : WA x (pc + 1) ls (.int (-a) :: st) h) : WA x pc ls (.int a :: st) h := by
  obtain ⟨p, l, e, R, s, m, args, below, meth, c, z, ⟨cs, sl, nL'⟩, Q⟩ := x
  obtain ⟨hx, hb, hml, hown, hts, hr, hcs, hK, hS0, hD, hnL⟩ := g
  subst hnL
  exact fun H locs lA hP hS hl => lv_ineg hx hb hd (K H locs lA hP hS hl)
theorem st_idiv {x : Cx} {own : String} {cc : ByteArray} {nL d pc : Nat} {ls st : List Value} {h : Hp} {a b : Int32} (g : Gx x own cc nL d) (hd : decode cc pc = .ok (.idiv, 1)) (hne : ¬ b = 0) (K : WA x (pc + 1) ls (.int (a / b) :: st) h) : WA x pc ls (.int b :: .int a :: st) h := by
  obtain ⟨p, l, e, R, s, m, args, below, meth, c, z, ⟨cs, sl, nL'⟩, Q⟩ := x
  obtain ⟨hx, hb, hml, hown, hts, hr, hcs, hK, hS0, hD, hnL⟩ := g
  subst hnL
  exact fun H locs lA hP hS hl => lv_idiv hx hb hd hne (K H locs lA hP hS hl)
theorem st_irem {x : Cx} {own : String} {cc : ByteArray} {nL d pc : Nat} {ls st : List Value} {h : Hp} {a b : Int32} (g : Gx x own cc nL d) (hd : decode cc pc = .ok (.irem, 1)) (hne : ¬ b = 0) (K : WA x (pc + 1) ls (.int (a % b) :: st) h) : WA x pc ls (.int b :: .int a :: st) h := by
  obtain ⟨p, l, e, R, s, m, args, below, meth, c, z, ⟨cs, sl, nL'⟩, Q⟩ := x
  obtain ⟨hx, hb, hml, hown, hts, hr, hcs, hK, hS0, hD, hnL⟩ := g
  subst hnL
  exact fun H locs lA hP hS hl => lv_irem hx hb hd hne (by rw [i32_rem]; exact K H locs lA hP hS hl)
theorem st_idivO {x : Cx} {own : String} {cc : ByteArray} {nL d pc : Nat} {ls st : List Value} {h : Hp} {a b : Int32} {τ : Type} {k : Int32 → Option τ} {out : τ} (g : Gx x own cc nL d) (hd : decode cc pc = .ok (.idiv, 1)) (E : (dvI a b).bind k = some out) (K : ∀ v, k v = some out → WA x (pc + 1) ls (.int v :: st) h) : WA x pc ls (.int b :: .int a :: st) h := by
  obtain ⟨p, l, e, R, s, m, args, below, meth, c, z, ⟨cs, sl, nL'⟩, Q⟩ := x
  obtain ⟨hx, hb, hml, hown, hts, hr, hcs, hK, hS0, hD, hnL⟩ := g
  subst hnL
  obtain ⟨v, h1, h2⟩ := bind_some E
  unfold dvI at h1
  split at h1
  · cases h1
  next hne =>
    cases h1
    exact fun H locs lA hP hS hl => lv_idiv hx hb hd hne (K _ h2 H locs lA hP hS hl)
theorem st_iremO {x : Cx} {own : String} {cc : ByteArray} {nL d pc : Nat} {ls st : List Value} {h : Hp} {a b : Int32} {τ : Type} {k : Int32 → Option τ} {out : τ} (g : Gx x own cc nL d) (hd : decode cc pc = .ok (.irem, 1)) (E : (rmI a b).bind k = some out) (K : ∀ v, k v = some out → WA x (pc + 1) ls (.int v :: st) h) : WA x pc ls (.int b :: .int a :: st) h := by
  obtain ⟨p, l, e, R, s, m, args, below, meth, c, z, ⟨cs, sl, nL'⟩, Q⟩ := x
  obtain ⟨hx, hb, hml, hown, hts, hr, hcs, hK, hS0, hD, hnL⟩ := g
  subst hnL
  obtain ⟨v, h1, h2⟩ := bind_some E
  unfold rmI at h1
  split at h1
  · cases h1
  next hne =>
    cases h1
    exact fun H locs lA hP hS hl => lv_irem hx hb hd hne (by rw [i32_rem]; exact K _ h2 H locs lA hP hS hl)
theorem st_ladd {x : Cx} {own : String} {cc : ByteArray} {nL d pc : Nat} {ls st : List Value} {h : Hp} {a b : Int64} (g : Gx x own cc nL d) (hd : decode cc pc = .ok (.ladd, 1))  (K : WA x (pc + 1) ls (.long (a + b) :: st) h) : WA x pc ls (.long b :: .long a :: st) h := by
  obtain ⟨p, l, e, R, s, m, args, below, meth, c, z, ⟨cs, sl, nL'⟩, Q⟩ := x
  obtain ⟨hx, hb, hml, hown, hts, hr, hcs, hK, hS0, hD, hnL⟩ := g
  subst hnL
  exact fun H locs lA hP hS hl => lv_ladd hx hb hd (K H locs lA hP hS hl)
theorem st_lsub {x : Cx} {own : String} {cc : ByteArray} {nL d pc : Nat} {ls st : List Value} {h : Hp} {a b : Int64} (g : Gx x own cc nL d) (hd : decode cc pc = .ok (.lsub, 1))  (K : WA x (pc + 1) ls (.long (a - b) :: st) h) : WA x pc ls (.long b :: .long a :: st) h := by
  obtain ⟨p, l, e, R, s, m, args, below, meth, c, z, ⟨cs, sl, nL'⟩, Q⟩ := x
  obtain ⟨hx, hb, hml, hown, hts, hr, hcs, hK, hS0, hD, hnL⟩ := g
  subst hnL
  exact fun H locs lA hP hS hl => lv_lsub hx hb hd (K H locs lA hP hS hl)
theorem st_lmul {x : Cx} {own : String} {cc : ByteArray} {nL d pc : Nat} {ls st : List Value} {h : Hp} {a b : Int64} (g : Gx x own cc nL d) (hd : decode cc pc = .ok (.lmul, 1))  (K : WA x (pc + 1) ls (.long (a * b) :: st) h) : WA x pc ls (.long b :: .long a :: st) h := by
  obtain ⟨p, l, e, R, s, m, args, below, meth, c, z, ⟨cs, sl, nL'⟩, Q⟩ := x
  obtain ⟨hx, hb, hml, hown, hts, hr, hcs, hK, hS0, hD, hnL⟩ := g
  subst hnL
  exact fun H locs lA hP hS hl => lv_lmul hx hb hd (K H locs lA hP hS hl)
theorem st_land {x : Cx} {own : String} {cc : ByteArray} {nL d pc : Nat} {ls st : List Value} {h : Hp} {a b : Int64} (g : Gx x own cc nL d) (hd : decode cc pc = .ok (.land, 1))  (K : WA x (pc + 1) ls (.long (a &&& b) :: st) h) : WA x pc ls (.long b :: .long a :: st) h := by
  obtain ⟨p, l, e, R, s, m, args, below, meth, c, z, ⟨cs, sl, nL'⟩, Q⟩ := x
  obtain ⟨hx, hb, hml, hown, hts, hr, hcs, hK, hS0, hD, hnL⟩ := g
  subst hnL
  exact fun H locs lA hP hS hl => lv_land hx hb hd (K H locs lA hP hS hl)
theorem st_lor {x : Cx} {own : String} {cc : ByteArray} {nL d pc : Nat} {ls st : List Value} {h : Hp} {a b : Int64} (g : Gx x own cc nL d) (hd : decode cc pc = .ok (.lor, 1))  (K : WA x (pc + 1) ls (.long (a ||| b) :: st) h) : WA x pc ls (.long b :: .long a :: st) h := by
  obtain ⟨p, l, e, R, s, m, args, below, meth, c, z, ⟨cs, sl, nL'⟩, Q⟩ := x
  obtain ⟨hx, hb, hml, hown, hts, hr, hcs, hK, hS0, hD, hnL⟩ := g
  subst hnL
  exact fun H locs lA hP hS hl => lv_lor hx hb hd (K H locs lA hP hS hl)
theorem st_lshl {x : Cx} {own : String} {cc : ByteArray} {nL d pc : Nat} {ls st : List Value} {h : Hp} {a : Int64} {b : Int32} (g : Gx x own cc nL d) (hd : decode cc pc = .ok (.lshl, 1))  (K : WA x (pc + 1) ls (.long (a <<< (b.toInt64 &&& 63)) :: st) h) : WA x pc ls (.int b :: .long a :: st) h := by
  obtain ⟨p, l, e, R, s, m, args, below, meth, c, z, ⟨cs, sl, nL'⟩, Q⟩ := x
  obtain ⟨hx, hb, hml, hown, hts, hr, hcs, hK, hS0, hD, hnL⟩ := g
  subst hnL
  exact fun H locs lA hP hS hl => lv_lshl hx hb hd rfl (K H locs lA hP hS hl)
theorem st_i2l {x : Cx} {own : String} {cc : ByteArray} {nL d pc : Nat} {ls st : List Value} {h : Hp} {a : Int32} (g : Gx x own cc nL d) (hd : decode cc pc = .ok (.i2l, 1))  (K : WA x (pc + 1) ls (.long a.toInt64 :: st) h) : WA x pc ls (.int a :: st) h := by
  obtain ⟨p, l, e, R, s, m, args, below, meth, c, z, ⟨cs, sl, nL'⟩, Q⟩ := x
  obtain ⟨hx, hb, hml, hown, hts, hr, hcs, hK, hS0, hD, hnL⟩ := g
  subst hnL
  exact fun H locs lA hP hS hl => lv_i2l hx hb hd rfl (K H locs lA hP hS hl)
theorem st_l2i {x : Cx} {own : String} {cc : ByteArray} {nL d pc : Nat} {ls st : List Value} {h : Hp} {a : Int64} (g : Gx x own cc nL d) (hd : decode cc pc = .ok (.l2i, 1))  (K : WA x (pc + 1) ls (.int a.toInt32 :: st) h) : WA x pc ls (.long a :: st) h := by
  obtain ⟨p, l, e, R, s, m, args, below, meth, c, z, ⟨cs, sl, nL'⟩, Q⟩ := x
  obtain ⟨hx, hb, hml, hown, hts, hr, hcs, hK, hS0, hD, hnL⟩ := g
  subst hnL
  exact fun H locs lA hP hS hl => lv_l2i hx hb hd rfl (K H locs lA hP hS hl)
theorem st_i2b {x : Cx} {own : String} {cc : ByteArray} {nL d pc : Nat} {ls st : List Value} {h : Hp} {a : Int32} (g : Gx x own cc nL d) (hd : decode cc pc = .ok (.i2b, 1))  (K : WA x (pc + 1) ls (.int a.toInt8.toInt32 :: st) h) : WA x pc ls (.int a :: st) h := by
  obtain ⟨p, l, e, R, s, m, args, below, meth, c, z, ⟨cs, sl, nL'⟩, Q⟩ := x
  obtain ⟨hx, hb, hml, hown, hts, hr, hcs, hK, hS0, hD, hnL⟩ := g
  subst hnL
  exact fun H locs lA hP hS hl => lv_i2b hx hb hd rfl (K H locs lA hP hS hl)
theorem st_i2s {x : Cx} {own : String} {cc : ByteArray} {nL d pc : Nat} {ls st : List Value} {h : Hp} {a : Int32} (g : Gx x own cc nL d) (hd : decode cc pc = .ok (.i2s, 1))  (K : WA x (pc + 1) ls (.int a.toInt16.toInt32 :: st) h) : WA x pc ls (.int a :: st) h := by
  obtain ⟨p, l, e, R, s, m, args, below, meth, c, z, ⟨cs, sl, nL'⟩, Q⟩ := x
  obtain ⟨hx, hb, hml, hown, hts, hr, hcs, hK, hS0, hD, hnL⟩ := g
  subst hnL
  exact fun H locs lA hP hS hl => lv_i2s hx hb hd rfl (K H locs lA hP hS hl)
theorem st_lcmp {x : Cx} {own : String} {cc : ByteArray} {nL d pc : Nat} {ls st : List Value} {h : Hp} {a b : Int64} (g : Gx x own cc nL d) (hd : decode cc pc = .ok (.lcmp, 1))  (K : WA x (pc + 1) ls (.int (lg_cmp a b) :: st) h) : WA x pc ls (.long b :: .long a :: st) h := by
  obtain ⟨p, l, e, R, s, m, args, below, meth, c, z, ⟨cs, sl, nL'⟩, Q⟩ := x
  obtain ⟨hx, hb, hml, hown, hts, hr, hcs, hK, hS0, hD, hnL⟩ := g
  subst hnL
  exact fun H locs lA hP hS hl => W.lcmp hx hb hd (K H locs lA hP hS hl)
theorem st_dup {x : Cx} {own : String} {cc : ByteArray} {nL d pc : Nat} {ls st : List Value} {h : Hp} {v : Value} (g : Gx x own cc nL d) (hd : decode cc pc = .ok (.dup, 1)) (hc : v.category = 1) (K : WA x (pc + 1) ls (v :: v :: st) h) : WA x pc ls (v :: st) h := by
  obtain ⟨p, l, e, R, s, m, args, below, meth, c, z, ⟨cs, sl, nL'⟩, Q⟩ := x
  obtain ⟨hx, hb, hml, hown, hts, hr, hcs, hK, hS0, hD, hnL⟩ := g
  subst hnL
  exact fun H locs lA hP hS hl => lv_dup hx hb hd (by rw [cv_cat]; exact hc) (K H locs lA hP hS hl)
theorem st_pop {x : Cx} {own : String} {cc : ByteArray} {nL d pc : Nat} {ls st : List Value} {h : Hp} {v : Value} (g : Gx x own cc nL d) (hd : decode cc pc = .ok (.pop, 1)) (hc : v.category = 1) (K : WA x (pc + 1) ls (st) h) : WA x pc ls (v :: st) h := by
  obtain ⟨p, l, e, R, s, m, args, below, meth, c, z, ⟨cs, sl, nL'⟩, Q⟩ := x
  obtain ⟨hx, hb, hml, hown, hts, hr, hcs, hK, hS0, hD, hnL⟩ := g
  subst hnL
  exact fun H locs lA hP hS hl => lv_pop hx hb hd (by rw [cv_cat]; exact hc) (K H locs lA hP hS hl)
theorem st_dup_x1 {x : Cx} {own : String} {cc : ByteArray} {nL d pc : Nat} {ls st : List Value} {h : Hp} {v u : Value} (g : Gx x own cc nL d) (hd : decode cc pc = .ok (.dup_x1, 1)) (hc : v.category = 1) (hc2 : u.category = 1) (K : WA x (pc + 1) ls (v :: u :: v :: st) h) : WA x pc ls (v :: u :: st) h := by
  obtain ⟨p, l, e, R, s, m, args, below, meth, c, z, ⟨cs, sl, nL'⟩, Q⟩ := x
  obtain ⟨hx, hb, hml, hown, hts, hr, hcs, hK, hS0, hD, hnL⟩ := g
  subst hnL
  exact fun H locs lA hP hS hl => lv_dup_x1 hx hb hd (by rw [cv_cat]; exact hc) (by rw [cv_cat]; exact hc2) (K H locs lA hP hS hl)
theorem st_dup2 {x : Cx} {own : String} {cc : ByteArray} {nL d pc : Nat} {ls st : List Value} {h : Hp} {v u : Value} (g : Gx x own cc nL d) (hd : decode cc pc = .ok (.dup2, 1)) (hc : v.category = 1) (hc2 : u.category = 1) (K : WA x (pc + 1) ls (v :: u :: v :: u :: st) h) : WA x pc ls (v :: u :: st) h := by
  obtain ⟨p, l, e, R, s, m, args, below, meth, c, z, ⟨cs, sl, nL'⟩, Q⟩ := x
  obtain ⟨hx, hb, hml, hown, hts, hr, hcs, hK, hS0, hD, hnL⟩ := g
  subst hnL
  exact fun H locs lA hP hS hl => lv_dup2_11 hx hb hd (by rw [cv_cat]; exact hc) (by rw [cv_cat]; exact hc2) (K H locs lA hP hS hl)
theorem st_if_eq {x : Cx} {own : String} {cc : ByteArray} {nL d pc : Nat} {ls st : List Value} {h : Hp} {a : Int32} {off : Int} {tgt : Nat} {τ : Type} {A B : Option τ} {out : τ} (g : Gx x own cc nL d) (hd : decode cc pc = .ok (.ifCond .eq off, 3)) (ht : (pc : Int) + off = (tgt : Int)) (E : (if a = 0 then A else B) = some out) (kt : a = 0 → A = some out → WA x tgt ls st h) (kf : ¬ a = 0 → B = some out → WA x (pc + 3) ls st h) : WA x pc ls (.int a :: st) h := by
  obtain ⟨p, l, e, R, s, m, args, below, meth, c, z, ⟨cs, sl, nL'⟩, Q⟩ := x
  obtain ⟨hx, hb, hml, hown, hts, hr, hcs, hK, hS0, hD, hnL⟩ := g
  subst hnL
  exact fun H locs lA hP hS hl => lv_if_eq hx hb hd ht (fun q => kt q (by rw [if_pos q] at E; exact E) H locs lA hP hS hl) (fun q => kf q (by rw [if_neg q] at E; exact E) H locs lA hP hS hl)
theorem st_if_ne {x : Cx} {own : String} {cc : ByteArray} {nL d pc : Nat} {ls st : List Value} {h : Hp} {a : Int32} {off : Int} {tgt : Nat} {τ : Type} {A B : Option τ} {out : τ} (g : Gx x own cc nL d) (hd : decode cc pc = .ok (.ifCond .ne off, 3)) (ht : (pc : Int) + off = (tgt : Int)) (E : (if a = 0 then A else B) = some out) (kt : ¬ a = 0 → B = some out → WA x tgt ls st h) (kf : a = 0 → A = some out → WA x (pc + 3) ls st h) : WA x pc ls (.int a :: st) h := by
  obtain ⟨p, l, e, R, s, m, args, below, meth, c, z, ⟨cs, sl, nL'⟩, Q⟩ := x
  obtain ⟨hx, hb, hml, hown, hts, hr, hcs, hK, hS0, hD, hnL⟩ := g
  subst hnL
  exact fun H locs lA hP hS hl => lv_if_ne hx hb hd ht (fun q => kt q (by rw [if_neg q] at E; exact E) H locs lA hP hS hl) (fun q => kf q (by rw [if_pos q] at E; exact E) H locs lA hP hS hl)
theorem st_if_lt {x : Cx} {own : String} {cc : ByteArray} {nL d pc : Nat} {ls st : List Value} {h : Hp} {a : Int32} {off : Int} {tgt : Nat} {τ : Type} {A B : Option τ} {out : τ} (g : Gx x own cc nL d) (hd : decode cc pc = .ok (.ifCond .lt off, 3)) (ht : (pc : Int) + off = (tgt : Int)) (E : (if a < 0 then A else B) = some out) (kt : a < 0 → A = some out → WA x tgt ls st h) (kf : ¬ a < 0 → B = some out → WA x (pc + 3) ls st h) : WA x pc ls (.int a :: st) h := by
  obtain ⟨p, l, e, R, s, m, args, below, meth, c, z, ⟨cs, sl, nL'⟩, Q⟩ := x
  obtain ⟨hx, hb, hml, hown, hts, hr, hcs, hK, hS0, hD, hnL⟩ := g
  subst hnL
  exact fun H locs lA hP hS hl => lv_if_lt hx hb hd ht (fun q => kt q (by rw [if_pos q] at E; exact E) H locs lA hP hS hl) (fun q => kf q (by rw [if_neg q] at E; exact E) H locs lA hP hS hl)
theorem st_if_ge {x : Cx} {own : String} {cc : ByteArray} {nL d pc : Nat} {ls st : List Value} {h : Hp} {a : Int32} {off : Int} {tgt : Nat} {τ : Type} {A B : Option τ} {out : τ} (g : Gx x own cc nL d) (hd : decode cc pc = .ok (.ifCond .ge off, 3)) (ht : (pc : Int) + off = (tgt : Int)) (E : (if 0 ≤ a then A else B) = some out) (kt : 0 ≤ a → A = some out → WA x tgt ls st h) (kf : ¬ 0 ≤ a → B = some out → WA x (pc + 3) ls st h) : WA x pc ls (.int a :: st) h := by
  obtain ⟨p, l, e, R, s, m, args, below, meth, c, z, ⟨cs, sl, nL'⟩, Q⟩ := x
  obtain ⟨hx, hb, hml, hown, hts, hr, hcs, hK, hS0, hD, hnL⟩ := g
  subst hnL
  exact fun H locs lA hP hS hl => lv_if_ge hx hb hd ht (fun q => kt q (by rw [if_pos q] at E; exact E) H locs lA hP hS hl) (fun q => kf q (by rw [if_neg q] at E; exact E) H locs lA hP hS hl)
theorem st_if_gt {x : Cx} {own : String} {cc : ByteArray} {nL d pc : Nat} {ls st : List Value} {h : Hp} {a : Int32} {off : Int} {tgt : Nat} {τ : Type} {A B : Option τ} {out : τ} (g : Gx x own cc nL d) (hd : decode cc pc = .ok (.ifCond .gt off, 3)) (ht : (pc : Int) + off = (tgt : Int)) (E : (if 0 < a then A else B) = some out) (kt : 0 < a → A = some out → WA x tgt ls st h) (kf : ¬ 0 < a → B = some out → WA x (pc + 3) ls st h) : WA x pc ls (.int a :: st) h := by
  obtain ⟨p, l, e, R, s, m, args, below, meth, c, z, ⟨cs, sl, nL'⟩, Q⟩ := x
  obtain ⟨hx, hb, hml, hown, hts, hr, hcs, hK, hS0, hD, hnL⟩ := g
  subst hnL
  exact fun H locs lA hP hS hl => lv_if_gt hx hb hd ht (fun q => kt q (by rw [if_pos q] at E; exact E) H locs lA hP hS hl) (fun q => kf q (by rw [if_neg q] at E; exact E) H locs lA hP hS hl)
theorem st_if_le {x : Cx} {own : String} {cc : ByteArray} {nL d pc : Nat} {ls st : List Value} {h : Hp} {a : Int32} {off : Int} {tgt : Nat} {τ : Type} {A B : Option τ} {out : τ} (g : Gx x own cc nL d) (hd : decode cc pc = .ok (.ifCond .le off, 3)) (ht : (pc : Int) + off = (tgt : Int)) (E : (if a ≤ 0 then A else B) = some out) (kt : a ≤ 0 → A = some out → WA x tgt ls st h) (kf : ¬ a ≤ 0 → B = some out → WA x (pc + 3) ls st h) : WA x pc ls (.int a :: st) h := by
  obtain ⟨p, l, e, R, s, m, args, below, meth, c, z, ⟨cs, sl, nL'⟩, Q⟩ := x
  obtain ⟨hx, hb, hml, hown, hts, hr, hcs, hK, hS0, hD, hnL⟩ := g
  subst hnL
  exact fun H locs lA hP hS hl => lv_if_le hx hb hd ht (fun q => kt q (by rw [if_pos q] at E; exact E) H locs lA hP hS hl) (fun q => kf q (by rw [if_neg q] at E; exact E) H locs lA hP hS hl)
theorem st_ic_eq {x : Cx} {own : String} {cc : ByteArray} {nL d pc : Nat} {ls st : List Value} {h : Hp} {a b : Int32} {off : Int} {tgt : Nat} {τ : Type} {A B : Option τ} {out : τ} (g : Gx x own cc nL d) (hd : decode cc pc = .ok (.if_icmp .eq off, 3)) (ht : (pc : Int) + off = (tgt : Int)) (E : (if a = b then A else B) = some out) (kt : a = b → A = some out → WA x tgt ls st h) (kf : ¬ a = b → B = some out → WA x (pc + 3) ls st h) : WA x pc ls (.int b :: .int a :: st) h := by
  obtain ⟨p, l, e, R, s, m, args, below, meth, c, z, ⟨cs, sl, nL'⟩, Q⟩ := x
  obtain ⟨hx, hb, hml, hown, hts, hr, hcs, hK, hS0, hD, hnL⟩ := g
  subst hnL
  exact fun H locs lA hP hS hl => lv_icmp_eq hx hb hd ht (fun q => kt q (by rw [if_pos q] at E; exact E) H locs lA hP hS hl) (fun q => kf q (by rw [if_neg q] at E; exact E) H locs lA hP hS hl)
theorem st_ic_ne {x : Cx} {own : String} {cc : ByteArray} {nL d pc : Nat} {ls st : List Value} {h : Hp} {a b : Int32} {off : Int} {tgt : Nat} {τ : Type} {A B : Option τ} {out : τ} (g : Gx x own cc nL d) (hd : decode cc pc = .ok (.if_icmp .ne off, 3)) (ht : (pc : Int) + off = (tgt : Int)) (E : (if a = b then A else B) = some out) (kt : ¬ a = b → B = some out → WA x tgt ls st h) (kf : a = b → A = some out → WA x (pc + 3) ls st h) : WA x pc ls (.int b :: .int a :: st) h := by
  obtain ⟨p, l, e, R, s, m, args, below, meth, c, z, ⟨cs, sl, nL'⟩, Q⟩ := x
  obtain ⟨hx, hb, hml, hown, hts, hr, hcs, hK, hS0, hD, hnL⟩ := g
  subst hnL
  exact fun H locs lA hP hS hl => lv_icmp_ne hx hb hd ht (fun q => kt q (by rw [if_neg q] at E; exact E) H locs lA hP hS hl) (fun q => kf q (by rw [if_pos q] at E; exact E) H locs lA hP hS hl)
theorem st_ic_lt {x : Cx} {own : String} {cc : ByteArray} {nL d pc : Nat} {ls st : List Value} {h : Hp} {a b : Int32} {off : Int} {tgt : Nat} {τ : Type} {A B : Option τ} {out : τ} (g : Gx x own cc nL d) (hd : decode cc pc = .ok (.if_icmp .lt off, 3)) (ht : (pc : Int) + off = (tgt : Int)) (E : (if a < b then A else B) = some out) (kt : a < b → A = some out → WA x tgt ls st h) (kf : ¬ a < b → B = some out → WA x (pc + 3) ls st h) : WA x pc ls (.int b :: .int a :: st) h := by
  obtain ⟨p, l, e, R, s, m, args, below, meth, c, z, ⟨cs, sl, nL'⟩, Q⟩ := x
  obtain ⟨hx, hb, hml, hown, hts, hr, hcs, hK, hS0, hD, hnL⟩ := g
  subst hnL
  exact fun H locs lA hP hS hl => lv_icmp_lt hx hb hd ht (fun q => kt q (by rw [if_pos q] at E; exact E) H locs lA hP hS hl) (fun q => kf q (by rw [if_neg q] at E; exact E) H locs lA hP hS hl)
theorem st_ic_ge {x : Cx} {own : String} {cc : ByteArray} {nL d pc : Nat} {ls st : List Value} {h : Hp} {a b : Int32} {off : Int} {tgt : Nat} {τ : Type} {A B : Option τ} {out : τ} (g : Gx x own cc nL d) (hd : decode cc pc = .ok (.if_icmp .ge off, 3)) (ht : (pc : Int) + off = (tgt : Int)) (E : (if b ≤ a then A else B) = some out) (kt : b ≤ a → A = some out → WA x tgt ls st h) (kf : ¬ b ≤ a → B = some out → WA x (pc + 3) ls st h) : WA x pc ls (.int b :: .int a :: st) h := by
  obtain ⟨p, l, e, R, s, m, args, below, meth, c, z, ⟨cs, sl, nL'⟩, Q⟩ := x
  obtain ⟨hx, hb, hml, hown, hts, hr, hcs, hK, hS0, hD, hnL⟩ := g
  subst hnL
  exact fun H locs lA hP hS hl => lv_icmp_ge hx hb hd ht (fun q => kt q (by rw [if_pos q] at E; exact E) H locs lA hP hS hl) (fun q => kf q (by rw [if_neg q] at E; exact E) H locs lA hP hS hl)
theorem st_ic_gt {x : Cx} {own : String} {cc : ByteArray} {nL d pc : Nat} {ls st : List Value} {h : Hp} {a b : Int32} {off : Int} {tgt : Nat} {τ : Type} {A B : Option τ} {out : τ} (g : Gx x own cc nL d) (hd : decode cc pc = .ok (.if_icmp .gt off, 3)) (ht : (pc : Int) + off = (tgt : Int)) (E : (if b < a then A else B) = some out) (kt : b < a → A = some out → WA x tgt ls st h) (kf : ¬ b < a → B = some out → WA x (pc + 3) ls st h) : WA x pc ls (.int b :: .int a :: st) h := by
  obtain ⟨p, l, e, R, s, m, args, below, meth, c, z, ⟨cs, sl, nL'⟩, Q⟩ := x
  obtain ⟨hx, hb, hml, hown, hts, hr, hcs, hK, hS0, hD, hnL⟩ := g
  subst hnL
  exact fun H locs lA hP hS hl => lv_icmp_gt hx hb hd ht (fun q => kt q (by rw [if_pos q] at E; exact E) H locs lA hP hS hl) (fun q => kf q (by rw [if_neg q] at E; exact E) H locs lA hP hS hl)
theorem st_ic_le {x : Cx} {own : String} {cc : ByteArray} {nL d pc : Nat} {ls st : List Value} {h : Hp} {a b : Int32} {off : Int} {tgt : Nat} {τ : Type} {A B : Option τ} {out : τ} (g : Gx x own cc nL d) (hd : decode cc pc = .ok (.if_icmp .le off, 3)) (ht : (pc : Int) + off = (tgt : Int)) (E : (if a ≤ b then A else B) = some out) (kt : a ≤ b → A = some out → WA x tgt ls st h) (kf : ¬ a ≤ b → B = some out → WA x (pc + 3) ls st h) : WA x pc ls (.int b :: .int a :: st) h := by
  obtain ⟨p, l, e, R, s, m, args, below, meth, c, z, ⟨cs, sl, nL'⟩, Q⟩ := x
  obtain ⟨hx, hb, hml, hown, hts, hr, hcs, hK, hS0, hD, hnL⟩ := g
  subst hnL
  exact fun H locs lA hP hS hl => lv_icmp_le hx hb hd ht (fun q => kt q (by rw [if_pos q] at E; exact E) H locs lA hP hS hl) (fun q => kf q (by rw [if_neg q] at E; exact E) H locs lA hP hS hl)
theorem st_goto {x : Cx} {own : String} {cc : ByteArray} {nL d pc : Nat} {ls st : List Value} {h : Hp} {off : Int} {tgt : Nat} (g : Gx x own cc nL d) (hd : decode cc pc = .ok (.goto off, 3)) (ht : (pc : Int) + off = (tgt : Int)) (K : WA x tgt ls st h) : WA x pc ls (st) h := by
  obtain ⟨p, l, e, R, s, m, args, below, meth, c, z, ⟨cs, sl, nL'⟩, Q⟩ := x
  obtain ⟨hx, hb, hml, hown, hts, hr, hcs, hK, hS0, hD, hnL⟩ := g
  subst hnL
  exact fun H locs lA hP hS hl => lv_goto hx hb hd ht (K H locs lA hP hS hl)
theorem st_tsw {x : Cx} {own : String} {cc : ByteArray} {nL d pc : Nat} {ls st : List Value} {h : Hp} {dflt lo hi : Int} {offs : Array Int} {len : Nat} {a k : Int32} {off : Int} {tgt : Nat} (g : Gx x own cc nL d) (hd : decode cc pc = .ok (.tableswitch dflt lo hi offs, len)) (hk : a = k) (h1 : ¬ k.toInt < lo) (h2 : ¬ hi < k.toInt) (ho : offs[(k.toInt - lo).toNat]? = some off) (ht : (pc : Int) + off = (tgt : Int)) (K : WA x tgt ls st h) : WA x pc ls (.int a :: st) h := by
  obtain ⟨p, l, e, R, s, m, args, below, meth, c, z, ⟨cs, sl, nL'⟩, Q⟩ := x
  obtain ⟨hx, hb, hml, hown, hts, hr, hcs, hK, hS0, hD, hnL⟩ := g
  subst hnL
  subst hk
  exact fun H locs lA hP hS hl => lv_tableIn hx hb hd h1 h2 ho ht (K H locs lA hP hS hl)
theorem st_tswD {x : Cx} {own : String} {cc : ByteArray} {nL d pc : Nat} {ls st : List Value} {h : Hp} {dflt lo hi : Int} {offs : Array Int} {len : Nat} {a : Int32} {tgt : Nat} (g : Gx x own cc nL d) (hd : decode cc pc = .ok (.tableswitch dflt lo hi offs, len)) (h1 : a.toInt < lo ∨ hi < a.toInt) (ht : (pc : Int) + dflt = (tgt : Int)) (K : WA x tgt ls st h) : WA x pc ls (.int a :: st) h := by
  obtain ⟨p, l, e, R, s, m, args, below, meth, c, z, ⟨cs, sl, nL'⟩, Q⟩ := x
  obtain ⟨hx, hb, hml, hown, hts, hr, hcs, hK, hS0, hD, hnL⟩ := g
  subst hnL
  exact fun H locs lA hP hS hl => lv_tableOut hx hb hd h1 ht (K H locs lA hP hS hl)
theorem st_lsw {x : Cx} {own : String} {cc : ByteArray} {nL d pc : Nat} {ls st : List Value} {h : Hp} {dflt : Int} {ps : Array (Int × Int)} {len : Nat} {a : Int32} {off : Int} {tgt : Nat} (g : Gx x own cc nL d) (hd : decode cc pc = .ok (.lookupswitch dflt ps, len)) (hp : (ps.toList.zip (ps.toList.drop 1)).all (fun (a, next) => a.1 < next.1) = true) (ho : Op.lookupswitch.offset ps.toList dflt a.toInt = off) (ht : (pc : Int) + off = (tgt : Int)) (K : WA x tgt ls st h) : WA x pc ls (.int a :: st) h := by
  obtain ⟨p, l, e, R, s, m, args, below, meth, c, z, ⟨cs, sl, nL'⟩, Q⟩ := x
  obtain ⟨hx, hb, hml, hown, hts, hr, hcs, hK, hS0, hD, hnL⟩ := g
  subst hnL
  exact fun H locs lA hP hS hl => lv_lookup hx hb hd hp ho ht (K H locs lA hP hS hl)
theorem st_getI {x : Cx} {own : String} {cc : ByteArray} {nL d pc : Nat} {ls st : List Value} {h : Hp} {C : String} {T : u_T} {N c0 j idx o : Nat} (g : Gx x own cc nL d) (hd : decode cc pc = .ok (.getfield idx, 3)) (hsh : sh o = (0, c0)) (hc : vwCl[c0]? = some (C, T, N)) (hN : clN c0 = N) (hj : j < N) (hm : Cond.fieldLink own idx (T j).1 (T j).2.1 (T j).2.2.1 ∈ lw_tbl) (hin : ∀ w ∈ u_ws C T N, w ∈ lw_tbl) (hf : ft c0 j ≠ 1) (hf2 : ft c0 j ≠ 2) (K : WA x (pc + 3) ls (.int (h.1 o j) :: st) h) : WA x pc ls (.ref o :: st) h := by
  obtain ⟨p, l, e, R, s, m, args, below, meth, c, z, ⟨cs, sl, nL'⟩, Q⟩ := x
  obtain ⟨hx, hb, hml, hown, hts, hr, hcs, hK, hS0, hD, hnL⟩ := g
  subst hnL
  have ho : o < 86 := sh_lt (by rw [hsh]; exact fun e => by cases e)
  have hin2 : ∀ w ∈ u_ws C T N, w ∈ lw_tg := fun w hw => tg (hin w hw) (by obtain ⟨k, -, rfl⟩ := List.mem_map.mp hw; unfold u_lay; split <;> rfl)
  intro H locs lA hP hS hl
  have he : (wld z.1 z.2.1 h)[o]? = some (z.1 o, .inr (c0, (List.range (clN c0)).map (fvl z.1 h c0 o))) := by rw [wld_at ho, ent_o hsh]
  exact va_get hx hb hts hin2 hown hK.1 hP o he hc j hj (hts _ (tg hm rfl)) (fun _ q => q) (v := .int (h.1 o j)) (by rw [fvl_map (by rw [hN]; exact hj)]; unfold fvl; rw [if_neg hf, if_neg hf2]) hd (K H locs lA hP hS hl)
theorem st_getF {x : Cx} {own : String} {cc : ByteArray} {nL d pc : Nat} {ls st : List Value} {h : Hp} {C : String} {T : u_T} {N c0 j idx o : Nat} {r : Nat} (g : Gx x own cc nL d) (hd : decode cc pc = .ok (.getfield idx, 3)) (hsh : sh o = (0, c0)) (hc : vwCl[c0]? = some (C, T, N)) (hN : clN c0 = N) (hj : j < N) (hm : Cond.fieldLink own idx (T j).1 (T j).2.1 (T j).2.2.1 ∈ lw_tbl) (hin : ∀ w ∈ u_ws C T N, w ∈ lw_tbl) (hf : ft c0 j = 1) (hpf : pf o j = r) (K : WA x (pc + 3) ls (.ref r :: st) h) : WA x pc ls (.ref o :: st) h := by
  obtain ⟨p, l, e, R, s, m, args, below, meth, c, z, ⟨cs, sl, nL'⟩, Q⟩ := x
  obtain ⟨hx, hb, hml, hown, hts, hr, hcs, hK, hS0, hD, hnL⟩ := g
  subst hnL
  have ho : o < 86 := sh_lt (by rw [hsh]; exact fun e => by cases e)
  have hin2 : ∀ w ∈ u_ws C T N, w ∈ lw_tg := fun w hw => tg (hin w hw) (by obtain ⟨k, -, rfl⟩ := List.mem_map.mp hw; unfold u_lay; split <;> rfl)
  intro H locs lA hP hS hl
  have he : (wld z.1 z.2.1 h)[o]? = some (z.1 o, .inr (c0, (List.range (clN c0)).map (fvl z.1 h c0 o))) := by rw [wld_at ho, ent_o hsh]
  subst hpf
  exact va_get hx hb hts hin2 hown hK.1 hP o he hc j hj (hts _ (tg hm rfl)) (fun _ q => q) (v := .ref (z.1 (pf o j))) (by rw [fvl_map (by rw [hN]; exact hj)]; unfold fvl; rw [if_pos hf]) hd (K H locs lA hP hS hl)
theorem st_getR {x : Cx} {own : String} {cc : ByteArray} {nL d pc : Nat} {ls st : List Value} {h : Hp} {C : String} {T : u_T} {N c0 j idx o : Nat} (g : Gx x own cc nL d) (hd : decode cc pc = .ok (.getfield idx, 3)) (hsh : sh o = (0, c0)) (hc : vwCl[c0]? = some (C, T, N)) (hN : clN c0 = N) (hj : j < N) (hm : Cond.fieldLink own idx (T j).1 (T j).2.1 (T j).2.2.1 ∈ lw_tbl) (hin : ∀ w ∈ u_ws C T N, w ∈ lw_tbl) (hf : ft c0 j = 2) (K : WA x (pc + 3) ls (.ref (h.2.2 o j) :: st) h) : WA x pc ls (.ref o :: st) h := by
  obtain ⟨p, l, e, R, s, m, args, below, meth, c, z, ⟨cs, sl, nL'⟩, Q⟩ := x
  obtain ⟨hx, hb, hml, hown, hts, hr, hcs, hK, hS0, hD, hnL⟩ := g
  subst hnL
  have ho : o < 86 := sh_lt (by rw [hsh]; exact fun e => by cases e)
  have hin2 : ∀ w ∈ u_ws C T N, w ∈ lw_tg := fun w hw => tg (hin w hw) (by obtain ⟨k, -, rfl⟩ := List.mem_map.mp hw; unfold u_lay; split <;> rfl)
  intro H locs lA hP hS hl
  have he : (wld z.1 z.2.1 h)[o]? = some (z.1 o, .inr (c0, (List.range (clN c0)).map (fvl z.1 h c0 o))) := by rw [wld_at ho, ent_o hsh]
  exact va_get hx hb hts hin2 hown hK.1 hP o he hc j hj (hts _ (tg hm rfl)) (fun _ q => q) (v := .ref (z.1 (h.2.2 o j))) (by rw [fvl_map (by rw [hN]; exact hj)]; unfold fvl; rw [if_neg (by omega), if_pos hf]) hd (K H locs lA hP hS hl)
theorem st_putI {x : Cx} {own : String} {cc : ByteArray} {nL d pc : Nat} {ls st : List Value} {h : Hp} {C : String} {T : u_T} {N c0 j idx o : Nat} {v : Int32} {ty0 : Nat → FieldType} (g : Gx x own cc nL d) (hd : decode cc pc = .ok (.putfield idx, 3)) (hsh : sh o = (0, c0)) (hc : vwCl[c0]? = some (C, T, N)) (hN : clN c0 = N) (hj : j < N) (hm : Cond.fieldLink own idx (T j).1 (T j).2.1 (T j).2.2.1 ∈ lw_tbl) (hin : ∀ w ∈ u_ws C T N, w ∈ lw_tbl) (hty : ∀ k, k < N → parseFieldDescriptor (T k).2.2.1 = some (ty0 k)) (hnm : ∀ a, a < N → ∀ b, b < N → a ≠ b → (T a).2.1 ≠ (T b).2.1) (hfin : (T j).2.2.2 = false) (hf : ft c0 j ≠ 1) (hf2 : ft c0 j ≠ 2) (hn : narrow (ty0 j) (.int v) = .int v) (hfit : fits (ty0 j) (.int v) = true) (K : WA x (pc + 3) ls st (stI h o j v)) : WA x pc ls (.int v :: .ref o :: st) h := by
  obtain ⟨p, l, e, R, s, m, args, below, meth, c, z, ⟨cs, sl, nL'⟩, Q⟩ := x
  obtain ⟨hx, hb, hml, hown, hts, hr, hcs, hK, hS0, hD, hnL⟩ := g
  subst hnL
  have ho : o < 86 := sh_lt (by rw [hsh]; exact fun e => by cases e)
  have hin2 : ∀ w ∈ u_ws C T N, w ∈ lw_tg := fun w hw => tg (hin w hw) (by obtain ⟨k, -, rfl⟩ := List.mem_map.mp hw; unfold u_lay; split <;> rfl)
  intro H locs lA hP hS hl
  have he : (wld z.1 z.2.1 h)[o]? = some (z.1 o, .inr (c0, (List.range (clN c0)).map (fvl z.1 h c0 o))) := by rw [wld_at ho, ent_o hsh]
  exact va_put hx hb hts hin2 ty0 hty hnm hown hK.1 hP (hD h) hS o he hc j hj (hts _ (tg hm rfl)) (fun _ q => q) hfin (hty j hj) hn hfit (by rw [List.length_map, List.length_range, hN]; exact hj) hd (fun H1 locs1 hP1 _ hS1 => K H1 locs1 lA (by unfold ZP; rw [← wld_o (v := v) hsh hf hf2]; exact hP1) hS1 hl)
theorem st_putR {x : Cx} {own : String} {cc : ByteArray} {nL d pc : Nat} {ls st : List Value} {h : Hp} {C : String} {T : u_T} {N c0 j idx o : Nat} {v : Nat} {ty0 : Nat → FieldType} (g : Gx x own cc nL d) (hd : decode cc pc = .ok (.putfield idx, 3)) (hsh : sh o = (0, c0)) (hc : vwCl[c0]? = some (C, T, N)) (hN : clN c0 = N) (hj : j < N) (hm : Cond.fieldLink own idx (T j).1 (T j).2.1 (T j).2.2.1 ∈ lw_tbl) (hin : ∀ w ∈ u_ws C T N, w ∈ lw_tbl) (hty : ∀ k, k < N → parseFieldDescriptor (T k).2.2.1 = some (ty0 k)) (hnm : ∀ a, a < N → ∀ b, b < N → a ≠ b → (T a).2.1 ≠ (T b).2.1) (hfin : (T j).2.2.2 = false) (hf2 : ft c0 j = 2) (hn : ∀ a, narrow (ty0 j) (.ref a) = .ref a) (hfit : ∀ a, fits (ty0 j) (.ref a) = true) (K : WA x (pc + 3) ls st (upR h o j v)) : WA x pc ls (.ref v :: .ref o :: st) h := by
  obtain ⟨p, l, e, R, s, m, args, below, meth, c, z, ⟨cs, sl, nL'⟩, Q⟩ := x
  obtain ⟨hx, hb, hml, hown, hts, hr, hcs, hK, hS0, hD, hnL⟩ := g
  subst hnL
  have ho : o < 86 := sh_lt (by rw [hsh]; exact fun e => by cases e)
  have hin2 : ∀ w ∈ u_ws C T N, w ∈ lw_tg := fun w hw => tg (hin w hw) (by obtain ⟨k, -, rfl⟩ := List.mem_map.mp hw; unfold u_lay; split <;> rfl)
  intro H locs lA hP hS hl
  have he : (wld z.1 z.2.1 h)[o]? = some (z.1 o, .inr (c0, (List.range (clN c0)).map (fvl z.1 h c0 o))) := by rw [wld_at ho, ent_o hsh]
  exact va_put hx hb hts hin2 ty0 hty hnm hown hK.1 hP (hD h) hS o he hc j hj (hts _ (tg hm rfl)) (fun _ q => q) hfin (hty j hj) (hn _) (hfit _) (by rw [List.length_map, List.length_range, hN]; exact hj) hd (fun H1 locs1 hP1 _ hS1 => K H1 locs1 lA (by unfold ZP; rw [← wld_r (r := v) hsh hf2]; exact hP1) hS1 hl)
theorem st_gets_LEAST {x : Cx} {own : String} {cc : ByteArray} {nL d pc : Nat} {ls st : List Value} {h : Hp} {idx : Nat} (g : Gx x own cc nL d) (hd : decode cc pc = .ok (.getstatic idx, 3)) (hm : Cond.fieldLink own idx RX7 "LEAST" "[I" ∈ lw_tbl) (K : WA x (pc + 3) ls (.ref 90 :: st) h) : WA x pc ls (st) h := by
  obtain ⟨p, l, e, R, s, m, args, below, meth, c, z, ⟨cs, sl, nL'⟩, Q⟩ := x
  obtain ⟨hx, hb, hml, hown, hts, hr, hcs, hK, hS0, hD, hnL⟩ := g
  subst hnL
  exact fun H locs lA hP hS hl => va_gets hx hb hS0.2.1 hS hown (hts _ (tg hm rfl)) (fun _ q => q) hd (K H locs lA hP hS hl)
theorem st_gets_MOST {x : Cx} {own : String} {cc : ByteArray} {nL d pc : Nat} {ls st : List Value} {h : Hp} {idx : Nat} (g : Gx x own cc nL d) (hd : decode cc pc = .ok (.getstatic idx, 3)) (hm : Cond.fieldLink own idx RX7 "MOST" "[I" ∈ lw_tbl) (K : WA x (pc + 3) ls (.ref 91 :: st) h) : WA x pc ls (st) h := by
  obtain ⟨p, l, e, R, s, m, args, below, meth, c, z, ⟨cs, sl, nL'⟩, Q⟩ := x
  obtain ⟨hx, hb, hml, hown, hts, hr, hcs, hK, hS0, hD, hnL⟩ := g
  subst hnL
  exact fun H locs lA hP hS hl => va_gets hx hb hS0.2.2.1 hS hown (hts _ (tg hm rfl)) (fun _ q => q) hd (K H locs lA hP hS hl)
theorem st_gets_ABOVE {x : Cx} {own : String} {cc : ByteArray} {nL d pc : Nat} {ls st : List Value} {h : Hp} {idx : Nat} (g : Gx x own cc nL d) (hd : decode cc pc = .ok (.getstatic idx, 3)) (hm : Cond.fieldLink own idx RX1 "ABOVE" "[I" ∈ lw_tbl) (K : WA x (pc + 3) ls (.ref 92 :: st) h) : WA x pc ls (st) h := by
  obtain ⟨p, l, e, R, s, m, args, below, meth, c, z, ⟨cs, sl, nL'⟩, Q⟩ := x
  obtain ⟨hx, hb, hml, hown, hts, hr, hcs, hK, hS0, hD, hnL⟩ := g
  subst hnL
  exact fun H locs lA hP hS hl => va_gets hx hb hS0.2.2.2.1 hS hown (hts _ (tg hm rfl)) (fun _ q => q) hd (K H locs lA hP hS hl)
theorem st_gets_OWN {x : Cx} {own : String} {cc : ByteArray} {nL d pc : Nat} {ls st : List Value} {h : Hp} {idx : Nat} (g : Gx x own cc nL d) (hd : decode cc pc = .ok (.getstatic idx, 3)) (hm : Cond.fieldLink own idx RX1 "OWN" "[I" ∈ lw_tbl) (K : WA x (pc + 3) ls (.ref 93 :: st) h) : WA x pc ls (st) h := by
  obtain ⟨p, l, e, R, s, m, args, below, meth, c, z, ⟨cs, sl, nL'⟩, Q⟩ := x
  obtain ⟨hx, hb, hml, hown, hts, hr, hcs, hK, hS0, hD, hnL⟩ := g
  subst hnL
  exact fun H locs lA hP hS hl => va_gets hx hb hS0.2.2.2.2 hS hown (hts _ (tg hm rfl)) (fun _ q => q) hd (K H locs lA hP hS hl)
theorem st_iald {x : Cx} {own : String} {cc : ByteArray} {nL d pc : Nat} {ls st : List Value} {h : Hp} {τ : Type} {out : τ} {a : Nat} {i : Int32} {k : Int32 → Option τ}  (g : Gx x own cc nL d) (hd : decode cc pc = .ok (.iaload, 1)) (E : (rdI h a i).bind k = some out) (K : ∀ v, k v = some out → WA x (pc + 1) ls (.int v :: st) h) : WA x pc ls (.int i :: .ref a :: st) h := by
  obtain ⟨p, l, e, R, s, m, args, below, meth, c, z, ⟨cs, sl, nL'⟩, Q⟩ := x
  obtain ⟨hx, hb, hml, hown, hts, hr, hcs, hK, hS0, hD, hnL⟩ := g
  subst hnL
  obtain ⟨v, h1, h2⟩ := bind_some E
  unfold rdI at h1
  split at h1
  · cases h1
  next hin =>
    cases h1
    obtain ⟨ha, q, hn⟩ := SI_of (a := a) (by omega)
    rw [hn] at hin
    have ht : tyk a = .int := by unfold tyk; rw [if_pos q]
    have hK2 := hK.tys ha (by omega)
    rw [ht] at hK2
    exact fun H locs lA hP hS hl => va_iald hx hb hK2 hP a 0 (by rw [wld_at ha, ent_i q]) rfl hin hd (K _ h2 H locs lA hP hS hl)
theorem st_iast {x : Cx} {own : String} {cc : ByteArray} {nL d pc : Nat} {ls st : List Value} {h : Hp} {τ : Type} {out : τ} {a : Nat} {i v : Int32} {k : Hp → Option τ} (g : Gx x own cc nL d) (hd : decode cc pc = .ok (.iastore, 1)) (E : (wrI h a i v).bind k = some out) (K : ∀ h2, k h2 = some out → WA x (pc + 1) ls st h2) : WA x pc ls (.int v :: .int i :: .ref a :: st) h := by
  obtain ⟨p, l, e, R, s, m, args, below, meth, c, z, ⟨cs, sl, nL'⟩, Q⟩ := x
  obtain ⟨hx, hb, hml, hown, hts, hr, hcs, hK, hS0, hD, hnL⟩ := g
  subst hnL
  obtain ⟨h3, h1, h2⟩ := bind_some E
  unfold wrI at h1
  split at h1
  · cases h1
  next hin =>
    cases h1
    obtain ⟨ha, q, hn⟩ := SI_of (a := a) (by omega)
    rw [hn] at hin
    have ht : tyk a = .int := by unfold tyk; rw [if_pos q]
    have hK2 := hK.tys ha (by omega)
    rw [ht] at hK2
    exact fun H locs lA hP hS hl => va_iast hx hb hK2 hP (hD h) hS a 0 (by rw [wld_at ha, ent_i q]) rfl hin hd (fun H1 locs1 hP1 _ hS1 => K _ h2 H1 locs1 lA (by rw [wld_i ha q] at hP1; exact hP1) hS1 hl)
theorem st_lald {x : Cx} {own : String} {cc : ByteArray} {nL d pc : Nat} {ls st : List Value} {h : Hp} {τ : Type} {out : τ} {a : Nat} {i : Int32} {k : Int64 → Option τ} (g : Gx x own cc nL d) (hd : decode cc pc = .ok (.laload, 1)) (E : (rdL h a i).bind k = some out) (K : ∀ v, k v = some out → WA x (pc + 1) ls (.long v :: st) h) : WA x pc ls (.int i :: .ref a :: st) h := by
  obtain ⟨p, l, e, R, s, m, args, below, meth, c, z, ⟨cs, sl, nL'⟩, Q⟩ := x
  obtain ⟨hx, hb, hml, hown, hts, hr, hcs, hK, hS0, hD, hnL⟩ := g
  subst hnL
  obtain ⟨v, h1, h2⟩ := bind_some E
  unfold rdL at h1
  split at h1
  · cases h1
  next hin =>
    cases h1
    obtain ⟨ha, q, hn⟩ := SL_of (a := a) (by omega)
    rw [hn] at hin
    have ht : tyk a = .long := by unfold tyk; rw [if_neg (by omega), if_pos q]
    have hK2 := hK.tys ha (by omega)
    rw [ht] at hK2
    exact fun H locs lA hP hS hl => va_lald hx hb hK2 hP a 0 (by rw [wld_at ha, ent_l q]) rfl hin hd (K _ h2 H locs lA hP hS hl)
theorem st_last {x : Cx} {own : String} {cc : ByteArray} {nL d pc : Nat} {ls st : List Value} {h : Hp} {τ : Type} {out : τ} {a : Nat} {i : Int32} {v : Int64} {k : Hp → Option τ} (g : Gx x own cc nL d) (hd : decode cc pc = .ok (.lastore, 1)) (E : (wrL h a i v).bind k = some out) (K : ∀ h2, k h2 = some out → WA x (pc + 1) ls st h2) : WA x pc ls (.long v :: .int i :: .ref a :: st) h := by
  obtain ⟨p, l, e, R, s, m, args, below, meth, c, z, ⟨cs, sl, nL'⟩, Q⟩ := x
  obtain ⟨hx, hb, hml, hown, hts, hr, hcs, hK, hS0, hD, hnL⟩ := g
  subst hnL
  obtain ⟨h3, h1, h2⟩ := bind_some E
  unfold wrL at h1
  split at h1
  · cases h1
  next hin =>
    cases h1
    obtain ⟨ha, q, hn⟩ := SL_of (a := a) (by omega)
    rw [hn] at hin
    have ht : tyk a = .long := by unfold tyk; rw [if_neg (by omega), if_pos q]
    have hK2 := hK.tys ha (by omega)
    rw [ht] at hK2
    exact fun H locs lA hP hS hl => va_last hx hb hK2 hP (hD h) hS a 0 (by rw [wld_at ha, ent_l q]) rfl hin hd (fun H1 locs1 hP1 _ hS1 => K _ h2 H1 locs1 lA (by rw [wld_l ha q] at hP1; exact hP1) hS1 hl)
theorem st_aald {x : Cx} {own : String} {cc : ByteArray} {nL d pc : Nat} {ls st : List Value} {h : Hp} {τ : Type} {out : τ} {a : Nat} {i : Int32} {k : Nat → Option τ} (g : Gx x own cc nL d) (hd : decode cc pc = .ok (.aaload, 1)) (E : (rdR a i).bind k = some out) (K : ∀ v, k v = some out → WA x (pc + 1) ls (.ref v :: st) h) : WA x pc ls (.int i :: .ref a :: st) h := by
  obtain ⟨p, l, e, R, s, m, args, below, meth, c, z, ⟨cs, sl, nL'⟩, Q⟩ := x
  obtain ⟨hx, hb, hml, hown, hts, hr, hcs, hK, hS0, hD, hnL⟩ := g
  subst hnL
  obtain ⟨v, h1, h2⟩ := bind_some E
  unfold rdR at h1
  split at h1
  · cases h1
  next hin =>
    cases h1
    obtain ⟨ha, q, hn⟩ := SR_of (a := a) (by omega)
    rw [hn] at hin
    have ht : tyk a = .array .long := by unfold tyk; rw [if_neg (by omega), if_neg (by omega)]
    intro H locs lA hP hS hl
    have hc := hP a _ (wld_at ha)
    rw [ent_r q] at hc
    have hlt : i.toNatClampNeg < (sh a).2 := Nat.not_le.mp fun q => hin (Or.inr q)
    have hK2 := (hK.2 a ha (by omega)).1
    rw [ht] at hK2
    exact W.aald (v := .ref (z.1 (pf a i.toNatClampNeg))) hx hb hc (hK2 (sh a).2 (fun j => va_rf (if j < (sh a).2 then some (z.1 (pf a j)) else none))) rfl (fun q => by cases q) (by show ¬ (i < 0 ∨ (arrV _ _ _).slots.size ≤ _); rw [arrV_size]; exact hin) (by show (arrV _ _ _).slots[_]? = _; rw [arrV_read _ _ hlt]; show some (va_rf (if _ then _ else _)) = _; rw [if_pos hlt]; rfl) rfl rfl hd (K _ h2 H locs lA hP hS hl)
theorem st_tald {x : Cx} {own : String} {cc : ByteArray} {nL d pc : Nat} {ls st : List Value} {h : Hp} {τ : Type} {out : τ} {t : Nat} {i : Int32} {k : Int32 → Option τ} (g : Gx x own cc nL d) (hd : decode cc pc = .ok (.iaload, 1)) (h90 : 90 ≤ t) (h94 : t < 94) (E : (rdT t i).bind k = some out) (K : ∀ v, k v = some out → WA x (pc + 1) ls (.int v :: st) h) : WA x pc ls (.int i :: .ref t :: st) h := by
  obtain ⟨p, l, e, R, s, m, args, below, meth, c, z, ⟨cs, sl, nL'⟩, Q⟩ := x
  obtain ⟨hx, hb, hml, hown, hts, hr, hcs, hK, hS0, hD, hnL⟩ := g
  subst hnL
  obtain ⟨v, h1, h2⟩ := bind_some E
  unfold rdT at h1
  split at h1
  · cases h1
  next hin =>
    cases h1
    exact fun H locs lA hP hS hl => va_ti hx hb (hS0.1 t h90 h94) hS hin rfl hd (K _ h2 H locs lA hP hS hl)
theorem st_alen {x : Cx} {own : String} {cc : ByteArray} {nL d pc : Nat} {ls st : List Value} {h : Hp} {τ : Type} {out : τ} {a : Nat} {k : Int32 → Option τ} (g : Gx x own cc nL d) (hd : decode cc pc = .ok (.arraylength, 1)) (E : (lnI a).bind k = some out) (K : ∀ v, k v = some out → WA x (pc + 1) ls (.int v :: st) h) : WA x pc ls (.ref a :: st) h := by
  obtain ⟨p, l, e, R, s, m, args, below, meth, c, z, ⟨cs, sl, nL'⟩, Q⟩ := x
  obtain ⟨hx, hb, hml, hown, hts, hr, hcs, hK, hS0, hD, hnL⟩ := g
  subst hnL
  obtain ⟨v, h1, h2⟩ := bind_some E
  unfold lnI at h1
  split at h1
  · cases h1
  next hin =>
    cases h1
    obtain ⟨ha, q, hn⟩ := SI_of (a := a) (by omega)
    have ht : tyk a = .int := by unfold tyk; rw [if_pos q]
    have hK2 := hK.tys ha (by omega)
    exact fun H locs lA hP hS hl => va_alen hx hb hK2 hP a 0 (by rw [wld_at ha, ent_i q]) rfl (by rw [hn]) hd (K _ h2 H locs lA hP hS hl)
theorem st_alenL {x : Cx} {own : String} {cc : ByteArray} {nL d pc : Nat} {ls st : List Value} {h : Hp} {τ : Type} {out : τ} {a : Nat} {k : Int32 → Option τ} (g : Gx x own cc nL d) (hd : decode cc pc = .ok (.arraylength, 1)) (E : (lnL a).bind k = some out) (K : ∀ v, k v = some out → WA x (pc + 1) ls (.int v :: st) h) : WA x pc ls (.ref a :: st) h := by
  obtain ⟨p, l, e, R, s, m, args, below, meth, c, z, ⟨cs, sl, nL'⟩, Q⟩ := x
  obtain ⟨hx, hb, hml, hown, hts, hr, hcs, hK, hS0, hD, hnL⟩ := g
  subst hnL
  obtain ⟨v, h1, h2⟩ := bind_some E
  unfold lnL at h1
  split at h1
  · cases h1
  next hin =>
    cases h1
    obtain ⟨ha, q, hn⟩ := SL_of (a := a) (by omega)
    have hK2 := hK.tys ha (by omega)
    exact fun H locs lA hP hS hl => va_alen hx hb hK2 hP a 0 (by rw [wld_at ha, ent_l q]) rfl (by rw [hn]) hd (K _ h2 H locs lA hP hS hl)
theorem st_max {x : Cx} {own : String} {cc : ByteArray} {nL d pc : Nat} {ls st : List Value} {h : Hp} {idx : Nat} {a b : Int32} (g : Gx x own cc nL d) (hd : decode cc pc = .ok (.invokestatic idx, 3)) (hm : Cond.methodLink own idx yJ9_max_7cf53 ∈ lw_tbl) (hst : (st.map fun v => v.category).sum ≤ 8) (hd1 : 2 ≤ d) (K : WA x (pc + 3) ls (.int (mxI a b) :: st) h) : WA x pc ls (.int b :: .int a :: st) h := by
  obtain ⟨p, l, e, R, s, m, args, below, meth, c, z, ⟨cs, sl, nL'⟩, Q⟩ := x
  obtain ⟨hx, hb, hml, hown, hts, hr, hcs, hK, hS0, hD, hnL⟩ := g
  subst hnL
  have hsum : ((st.map (cv z.1)).map fun v => v.category).sum ≤ 8 := by rw [List.map_map]; have e : ((fun v => v.category) ∘ cv z.1) = fun v : Value => v.category := funext fun v => cv_cat v; rw [e]; exact hst
  exact fun H locs lA hP hS hl => va_mmax hx hb (hml.trans hl.1.symm) hown (hts _ (tg hm rfl)) (hts _ (tg sm_J9_max_7cf53 rfl)) (hts _ (tg ini_J9 rfl)) (hts _ (tg co_J9_max_7cf53 rfl)) (by omega) (by omega) hcs.1 hcs.2 hd (K H locs lA hP hS hl)
theorem st_min {x : Cx} {own : String} {cc : ByteArray} {nL d pc : Nat} {ls st : List Value} {h : Hp} {idx : Nat} {a b : Int32} (g : Gx x own cc nL d) (hd : decode cc pc = .ok (.invokestatic idx, 3)) (hm : Cond.methodLink own idx yJ9_min_7cf53 ∈ lw_tbl) (hst : (st.map fun v => v.category).sum ≤ 8) (hd1 : 2 ≤ d) (K : WA x (pc + 3) ls (.int (mnI a b) :: st) h) : WA x pc ls (.int b :: .int a :: st) h := by
  obtain ⟨p, l, e, R, s, m, args, below, meth, c, z, ⟨cs, sl, nL'⟩, Q⟩ := x
  obtain ⟨hx, hb, hml, hown, hts, hr, hcs, hK, hS0, hD, hnL⟩ := g
  subst hnL
  have hsum : ((st.map (cv z.1)).map fun v => v.category).sum ≤ 8 := by rw [List.map_map]; have e : ((fun v => v.category) ∘ cv z.1) = fun v : Value => v.category := funext fun v => cv_cat v; rw [e]; exact hst
  exact fun H locs lA hP hS hl => va_mmin hx hb (hml.trans hl.1.symm) hown (hts _ (tg hm rfl)) (hts _ (tg sm_J9_min_7cf53 rfl)) (hts _ (tg ini_J9 rfl)) (hts _ (tg co_J9_min_7cf53 rfl)) (by omega) (by omega) hcs.1 hcs.2 hd (K H locs lA hP hS hl)
theorem st_abs {x : Cx} {own : String} {cc : ByteArray} {nL d pc : Nat} {ls st : List Value} {h : Hp} {idx : Nat} {a : Int32} (g : Gx x own cc nL d) (hd : decode cc pc = .ok (.invokestatic idx, 3)) (hm : Cond.methodLink own idx yJ9_abs_0f7a4 ∈ lw_tbl) (hst : (st.map fun v => v.category).sum ≤ 8) (hd1 : 2 ≤ d) (K : WA x (pc + 3) ls (.int (abI a) :: st) h) : WA x pc ls (.int a :: st) h := by
  obtain ⟨p, l, e, R, s, m, args, below, meth, c, z, ⟨cs, sl, nL'⟩, Q⟩ := x
  obtain ⟨hx, hb, hml, hown, hts, hr, hcs, hK, hS0, hD, hnL⟩ := g
  subst hnL
  have hsum : ((st.map (cv z.1)).map fun v => v.category).sum ≤ 8 := by rw [List.map_map]; have e : ((fun v => v.category) ∘ cv z.1) = fun v : Value => v.category := funext fun v => cv_cat v; rw [e]; exact hst
  exact fun H locs lA hP hS hl => va_mabs hx hb (hml.trans hl.1.symm) hown (hts _ (tg hm rfl)) (hts _ (tg sm_J9_abs_0f7a4 rfl)) (hts _ (tg ini_J9 rfl)) (hts _ (tg co_J9_abs_0f7a4 rfl)) (by omega) (by omega) hcs.1 hcs.2 hd (K H locs lA hP hS hl)
theorem st_cpI {x : Cx} {own : String} {cc : ByteArray} {nL d pc : Nat} {ls st : List Value} {h : Hp} {idx : Nat} {τ : Type} {out : τ} {a b : Nat} {i j n : Int32} {k : Hp → Option τ} (g : Gx x own cc nL d) (hd : decode cc pc = .ok (.invokestatic idx, 3)) (hm : Cond.methodLink own idx arraycopyName ∈ lw_tbl) (hst : (st.map fun v => v.category).sum ≤ 8) (hd1 : 2 ≤ d) (E : (cpI h a i b j n).bind k = some out) (K : ∀ h2, k h2 = some out → WA x (pc + 3) ls st h2) : WA x pc ls (.int n :: .int j :: .ref b :: .int i :: .ref a :: st) h := by
  obtain ⟨p, l, e, R, s, m, args, below, meth, c, z, ⟨cs, sl, nL'⟩, Q⟩ := x
  obtain ⟨hx, hb, hml, hown, hts, hr, hcs, hK, hS0, hD, hnL⟩ := g
  subst hnL
  have hsum : ((st.map (cv z.1)).map fun v => v.category).sum ≤ 8 := by rw [List.map_map]; have e : ((fun v => v.category) ∘ cv z.1) = fun v : Value => v.category := funext fun v => cv_cat v; rw [e]; exact hst
  obtain ⟨h3, h1, h2⟩ := bind_some E
  unfold cpI at h1
  split at h1
  · cases h1
  next hin =>
    cases h1
    simp only [not_or] at hin
    obtain ⟨i1, i2, i3, i6, i7, i4, i5⟩ := hin
    obtain ⟨ha, q1, hn1⟩ := SI_of (Nat.pos_of_ne_zero i6)
    obtain ⟨hb2, q2, hn2⟩ := SI_of (Nat.pos_of_ne_zero i7)
    have ht : tyk a = .int ∧ tyk b = .int := by unfold tyk; rw [if_pos q1, if_pos q2]; exact ⟨rfl, rfl⟩
    have hK2 := hK.tys2 ha (by omega) hb2 (by omega)
    rw [ht.1, ht.2] at hK2
    exact fun H locs lA hP hS hl => va_copyi hx hb (hml.trans hl.1.symm) hown (hts _ (tg hm rfl)) (hts _ (tg nm_arraycopy rfl)) (hts _ (tg sm_arraycopy rfl)) (hts _ (tg ini_J10 rfl)) hK2 hP (hD h) hS a b 0 1 (by rw [wld_at ha, ent_i q1]) (by rw [wld_at hb2, ent_i q2]) rfl rfl rfl i1 i2 i3 (by omega) (by omega) (fun _ _ => rfl) (by omega) (by rw [nfw]; omega) hd (fun H1 locs1 hP1 _ hS1 => K _ h2 H1 locs1 lA (by rw [wld_i hb2 q2] at hP1; exact hP1) hS1 hl)
theorem st_cpL {x : Cx} {own : String} {cc : ByteArray} {nL d pc : Nat} {ls st : List Value} {h : Hp} {idx : Nat} {τ : Type} {out : τ} {a b : Nat} {i j n : Int32} {k : Hp → Option τ} (g : Gx x own cc nL d) (hd : decode cc pc = .ok (.invokestatic idx, 3)) (hm : Cond.methodLink own idx arraycopyName ∈ lw_tbl) (hst : (st.map fun v => v.category).sum ≤ 8) (hd1 : 2 ≤ d) (E : (cpL h a i b j n).bind k = some out) (K : ∀ h2, k h2 = some out → WA x (pc + 3) ls st h2) : WA x pc ls (.int n :: .int j :: .ref b :: .int i :: .ref a :: st) h := by
  obtain ⟨p, l, e, R, s, m, args, below, meth, c, z, ⟨cs, sl, nL'⟩, Q⟩ := x
  obtain ⟨hx, hb, hml, hown, hts, hr, hcs, hK, hS0, hD, hnL⟩ := g
  subst hnL
  have hsum : ((st.map (cv z.1)).map fun v => v.category).sum ≤ 8 := by rw [List.map_map]; have e : ((fun v => v.category) ∘ cv z.1) = fun v : Value => v.category := funext fun v => cv_cat v; rw [e]; exact hst
  obtain ⟨h3, h1, h2⟩ := bind_some E
  unfold cpL at h1
  split at h1
  · cases h1
  next hin =>
    cases h1
    simp only [not_or] at hin
    obtain ⟨i1, i2, i3, i6, i7, i4, i5⟩ := hin
    obtain ⟨ha, q1, hn1⟩ := SL_of (Nat.pos_of_ne_zero i6)
    obtain ⟨hb2, q2, hn2⟩ := SL_of (Nat.pos_of_ne_zero i7)
    have ht : tyk a = .long ∧ tyk b = .long := by unfold tyk; rw [if_neg (by omega), if_pos q1, if_neg (by omega), if_pos q2]; exact ⟨rfl, rfl⟩
    have hK2 := hK.tys2 ha (by omega) hb2 (by omega)
    rw [ht.1, ht.2] at hK2
    exact fun H locs lA hP hS hl => va_copyl hx hb (hml.trans hl.1.symm) hown (hts _ (tg hm rfl)) (hts _ (tg nm_arraycopy rfl)) (hts _ (tg sm_arraycopy rfl)) (hts _ (tg ini_J10 rfl)) hK2 hP (hD h) hS a b 0 1 (by rw [wld_at ha, ent_l q1]) (by rw [wld_at hb2, ent_l q2]) rfl rfl rfl i1 i2 i3 (by omega) (by omega) (fun _ _ => rfl) (by omega) (by rw [nfw]; omega) hd (fun H1 locs1 hP1 _ hS1 => K _ h2 H1 locs1 lA (by rw [wld_l hb2 q2] at hP1; exact hP1) hS1 hl)
theorem st_callVI {x : Cx} {own : String} {cc : ByteArray} {nL d pc : Nat} {ls st : List Value} {h : Hp} {idx n n1 d1 o c0 N : Nat} {C : String} {T : u_T} {y : MethodName} {c1 : ByteArray} {as : List Value} {ty : FieldType} {r : Int32} {h2 : Hp} (g : Gx x own cc nL d) (hd : decode cc pc = .ok (.invokevirtual idx, 3)) (hsh : sh o = (0, c0)) (hc : vwCl[c0]? = some (C, T, N)) (hm : Cond.methodLink own idx y ∈ lw_tbl) (hf : MfI y C c1 n1 (some ty) n) (hn : as.length = n) (hst : (st.map fun v => v.category).sum ≤ 8) (hd1 : d1 + 1 ≤ d) (hM : CtI y c1 n1 ty d1 (.ref o :: as) h r h2) (K : (ty = .boolean → r = 0 ∨ r = 1) → WA x (pc + 3) ls (.int r :: st) h2) : WA x pc ls (as.reverse ++ (.ref o :: st)) h := by
  obtain ⟨p, l, e, R, s, m, args, below, meth, c, z, ⟨cs, sl, nL'⟩, Q⟩ := x
  obtain ⟨hx, hb, hml, hown, hts, hr, hcs, hK, hS0, hD, hnL⟩ := g
  subst hnL
  have hsum : ((st.map (cv z.1)).map fun v => v.category).sum ≤ 8 := by rw [List.map_map]; have e : ((fun v => v.category) ∘ cv z.1) = fun v : Value => v.category := funext fun v => cv_cat v; rw [e]; exact hst
  have ho : o < 86 := sh_lt (by rw [hsh]; exact fun e => by cases e)
  have he : (wld z.1 z.2.1 h)[o]? = some (z.1 o, .inr (c0, (List.range (clN c0)).map (fvl z.1 h c0 o))) := by rw [wld_at ho, ent_o hsh]
  have hstk : (as.reverse ++ (.ref o :: st)).map (cv z.1) = (as.map (cv z.1)).reverse ++ (.ref (z.1 o) :: st.map (cv z.1)) := by simp [cv]
  have hroom : rmd d1 = { frames := d1, cells := 0, slots := 0, locals := 60 * d1 } := rfl
  intro H locs lA hP hS hl
  have hn41 := hf.2.2.2.2.2
  refine va_calli (va_runV (As := as.map (cv z.1)) (rest := st.map (cv z.1)) ⟨hx, hb, hml, hown, hts⟩ (hM l z) (cwV n hts (lw_wsV hm hf) rfl rfl rfl hf.2.2.2.2.1 ⟨by show d1 + 1 ≤ R.frames; omega, by show 8 + (n1 + 11) + 60 * d1 ≤ R.locals; omega⟩) ⟨PreB_blind, va_recv hK.1 hP hc he, fun U hU hW => ⟨by simp [cv], by rw [hU]; exact hP, ZK.moved hW.alike hK, ZS.moved hW.alike (by rw [hU]; exact hS0.kept hS.2.1), hD⟩⟩ rfl (by rw [List.length_map]; exact hn) hl.1 hstk (lv_room hsum) hd ⟨hcs.1, hcs.2⟩) hS (fun q _ hq => hq) (fun q hq => hq) (fun r1 u t H1 locs1 ht hvm hw hB hz1 hk1 hS1 => ?_)
  obtain ⟨rfl, rfl, hz⟩ := hw
  exact K hz H1 locs1 lA (by rw [ht] at hB; exact hB) hS1 hl
theorem st_callVL {x : Cx} {own : String} {cc : ByteArray} {nL d pc : Nat} {ls st : List Value} {h : Hp} {idx n n1 d1 o c0 N : Nat} {C : String} {T : u_T} {y : MethodName} {c1 : ByteArray} {as : List Value} {r : Int64} {h2 : Hp} (g : Gx x own cc nL d) (hd : decode cc pc = .ok (.invokevirtual idx, 3)) (hsh : sh o = (0, c0)) (hc : vwCl[c0]? = some (C, T, N)) (hm : Cond.methodLink own idx y ∈ lw_tbl) (hf : MfI y C c1 n1 (some .long) n) (hn : as.length = n) (hst : (st.map fun v => v.category).sum ≤ 8) (hd1 : d1 + 1 ≤ d) (hM : CtL y c1 n1 d1 (.ref o :: as) h r h2) (K : WA x (pc + 3) ls (.long r :: st) h2) : WA x pc ls (as.reverse ++ (.ref o :: st)) h := by
  obtain ⟨p, l, e, R, s, m, args, below, meth, c, z, ⟨cs, sl, nL'⟩, Q⟩ := x
  obtain ⟨hx, hb, hml, hown, hts, hr, hcs, hK, hS0, hD, hnL⟩ := g
  subst hnL
  have hsum : ((st.map (cv z.1)).map fun v => v.category).sum ≤ 8 := by rw [List.map_map]; have e : ((fun v => v.category) ∘ cv z.1) = fun v : Value => v.category := funext fun v => cv_cat v; rw [e]; exact hst
  have ho : o < 86 := sh_lt (by rw [hsh]; exact fun e => by cases e)
  have he : (wld z.1 z.2.1 h)[o]? = some (z.1 o, .inr (c0, (List.range (clN c0)).map (fvl z.1 h c0 o))) := by rw [wld_at ho, ent_o hsh]
  have hstk : (as.reverse ++ (.ref o :: st)).map (cv z.1) = (as.map (cv z.1)).reverse ++ (.ref (z.1 o) :: st.map (cv z.1)) := by simp [cv]
  have hroom : rmd d1 = { frames := d1, cells := 0, slots := 0, locals := 60 * d1 } := rfl
  intro H locs lA hP hS hl
  have hn41 := hf.2.2.2.2.2
  refine va_calll (va_runV (As := as.map (cv z.1)) (rest := st.map (cv z.1)) ⟨hx, hb, hml, hown, hts⟩ (hM l z) (cwV n hts (lw_wsV hm hf) rfl rfl rfl hf.2.2.2.2.1 ⟨by show d1 + 1 ≤ R.frames; omega, by show 8 + (n1 + 11) + 60 * d1 ≤ R.locals; omega⟩) ⟨PreB_blind, va_recv hK.1 hP hc he, fun U hU hW => ⟨by simp [cv], by rw [hU]; exact hP, ZK.moved hW.alike hK, ZS.moved hW.alike (by rw [hU]; exact hS0.kept hS.2.1), hD⟩⟩ rfl (by rw [List.length_map]; exact hn) hl.1 hstk (lv_room hsum) hd ⟨hcs.1, hcs.2⟩) hS (fun q _ hq => hq) (fun q hq => hq) (fun r1 u t H1 locs1 ht hvm hw hB hz1 hk1 hS1 => ?_)
  obtain ⟨rfl, rfl⟩ := hw
  exact K H1 locs1 lA (by rw [ht] at hB; exact hB) hS1 hl
theorem st_callVV {x : Cx} {own : String} {cc : ByteArray} {nL d pc : Nat} {ls st : List Value} {h : Hp} {idx n n1 d1 o c0 N : Nat} {C : String} {T : u_T} {y : MethodName} {c1 : ByteArray} {as : List Value} {h2 : Hp} (g : Gx x own cc nL d) (hd : decode cc pc = .ok (.invokevirtual idx, 3)) (hsh : sh o = (0, c0)) (hc : vwCl[c0]? = some (C, T, N)) (hm : Cond.methodLink own idx y ∈ lw_tbl) (hf : MfI y C c1 n1 none n) (hn : as.length = n) (hst : (st.map fun v => v.category).sum ≤ 8) (hd1 : d1 + 1 ≤ d) (hM : CtV y c1 n1 d1 (.ref o :: as) h h2) (K : WA x (pc + 3) ls (st) h2) : WA x pc ls (as.reverse ++ (.ref o :: st)) h := by
  obtain ⟨p, l, e, R, s, m, args, below, meth, c, z, ⟨cs, sl, nL'⟩, Q⟩ := x
  obtain ⟨hx, hb, hml, hown, hts, hr, hcs, hK, hS0, hD, hnL⟩ := g
  subst hnL
  have hsum : ((st.map (cv z.1)).map fun v => v.category).sum ≤ 8 := by rw [List.map_map]; have e : ((fun v => v.category) ∘ cv z.1) = fun v : Value => v.category := funext fun v => cv_cat v; rw [e]; exact hst
  have ho : o < 86 := sh_lt (by rw [hsh]; exact fun e => by cases e)
  have he : (wld z.1 z.2.1 h)[o]? = some (z.1 o, .inr (c0, (List.range (clN c0)).map (fvl z.1 h c0 o))) := by rw [wld_at ho, ent_o hsh]
  have hstk : (as.reverse ++ (.ref o :: st)).map (cv z.1) = (as.map (cv z.1)).reverse ++ (.ref (z.1 o) :: st.map (cv z.1)) := by simp [cv]
  have hroom : rmd d1 = { frames := d1, cells := 0, slots := 0, locals := 60 * d1 } := rfl
  intro H locs lA hP hS hl
  have hn41 := hf.2.2.2.2.2
  refine va_callv (va_runV (As := as.map (cv z.1)) (rest := st.map (cv z.1)) ⟨hx, hb, hml, hown, hts⟩ (hM l z) (cwV n hts (lw_wsV hm hf) rfl rfl rfl hf.2.2.2.2.1 ⟨by show d1 + 1 ≤ R.frames; omega, by show 8 + (n1 + 11) + 60 * d1 ≤ R.locals; omega⟩) ⟨PreB_blind, va_recv hK.1 hP hc he, fun U hU hW => ⟨by simp [cv], by rw [hU]; exact hP, ZK.moved hW.alike hK, ZS.moved hW.alike (by rw [hU]; exact hS0.kept hS.2.1), hD⟩⟩ rfl (by rw [List.length_map]; exact hn) hl.1 hstk (lv_room hsum) hd ⟨hcs.1, hcs.2⟩) hS (fun q _ hq => hq) (fun q hq => hq) (fun u t H1 locs1 ht hvm hw hB hz1 hk1 hS1 => ?_)
  cases hw
  exact K H1 locs1 lA (by rw [ht] at hB; exact hB) hS1 hl
theorem st_callSI {x : Cx} {own : String} {cc : ByteArray} {nL d pc : Nat} {ls st : List Value} {h : Hp} {idx n n1 d1 : Nat} {y : MethodName} {c1 : ByteArray} {as : List Value} {ty : FieldType} {r : Int32} {h2 : Hp} (g : Gx x own cc nL d) (hd : decode cc pc = .ok (.invokestatic idx, 3)) (hm : Cond.methodLink own idx y ∈ lw_tbl) (hf : MfS y c1 n1 (some ty) n) (hn : as.length = n) (hst : (st.map fun v => v.category).sum ≤ 8) (hd1 : d1 + 1 ≤ d) (hM : CtI y c1 n1 ty d1 as h r h2) (K : (ty = .boolean → r = 0 ∨ r = 1) → WA x (pc + 3) ls (.int r :: st) h2) : WA x pc ls (as.reverse ++ st) h := by
  obtain ⟨p, l, e, R, s, m, args, below, meth, c, z, ⟨cs, sl, nL'⟩, Q⟩ := x
  obtain ⟨hx, hb, hml, hown, hts, hr, hcs, hK, hS0, hD, hnL⟩ := g
  subst hnL
  have hsum : ((st.map (cv z.1)).map fun v => v.category).sum ≤ 8 := by rw [List.map_map]; have e : ((fun v => v.category) ∘ cv z.1) = fun v : Value => v.category := funext fun v => cv_cat v; rw [e]; exact hst
  have hstk : (as.reverse ++ st).map (cv z.1) = (as.map (cv z.1)).reverse ++ st.map (cv z.1) := by simp [cv]
  have hroom : rmd d1 = { frames := d1, cells := 0, slots := 0, locals := 60 * d1 } := rfl
  intro H locs lA hP hS hl
  have hn41 := hf.2.2.2.2
  refine va_calli (va_runS (As := as.map (cv z.1)) (rest := st.map (cv z.1)) ⟨hx, hb, hml, hown, hts⟩ (hM l z) (va_cwS n hts (lw_wsS hm hf) rfl rfl rfl hf.2.2.2.1 ⟨by show d1 + 1 ≤ R.frames; omega, by show 8 + (n1 + 11) + 60 * d1 ≤ R.locals; omega⟩) ⟨PreB_blind, fun U hU hW => ⟨by simp [cv], by rw [hU]; exact hP, ZK.moved hW.alike hK, ZS.moved hW.alike (by rw [hU]; exact hS0.kept hS.2.1), hD⟩⟩ rfl (by rw [List.length_map]; exact hn) hl.1 hstk (lv_room hsum) hd ⟨hcs.1, hcs.2⟩) hS (fun q _ hq => hq) (fun q hq => hq) (fun r1 u t H1 locs1 ht hvm hw hB hz1 hk1 hS1 => ?_)
  obtain ⟨rfl, rfl, hz⟩ := hw
  exact K hz H1 locs1 lA (by rw [ht] at hB; exact hB) hS1 hl
theorem st_callSL {x : Cx} {own : String} {cc : ByteArray} {nL d pc : Nat} {ls st : List Value} {h : Hp} {idx n n1 d1 : Nat} {y : MethodName} {c1 : ByteArray} {as : List Value} {r : Int64} {h2 : Hp} (g : Gx x own cc nL d) (hd : decode cc pc = .ok (.invokestatic idx, 3)) (hm : Cond.methodLink own idx y ∈ lw_tbl) (hf : MfS y c1 n1 (some .long) n) (hn : as.length = n) (hst : (st.map fun v => v.category).sum ≤ 8) (hd1 : d1 + 1 ≤ d) (hM : CtL y c1 n1 d1 as h r h2) (K : WA x (pc + 3) ls (.long r :: st) h2) : WA x pc ls (as.reverse ++ st) h := by
  obtain ⟨p, l, e, R, s, m, args, below, meth, c, z, ⟨cs, sl, nL'⟩, Q⟩ := x
  obtain ⟨hx, hb, hml, hown, hts, hr, hcs, hK, hS0, hD, hnL⟩ := g
  subst hnL
  have hsum : ((st.map (cv z.1)).map fun v => v.category).sum ≤ 8 := by rw [List.map_map]; have e : ((fun v => v.category) ∘ cv z.1) = fun v : Value => v.category := funext fun v => cv_cat v; rw [e]; exact hst
  have hstk : (as.reverse ++ st).map (cv z.1) = (as.map (cv z.1)).reverse ++ st.map (cv z.1) := by simp [cv]
  have hroom : rmd d1 = { frames := d1, cells := 0, slots := 0, locals := 60 * d1 } := rfl
  intro H locs lA hP hS hl
  have hn41 := hf.2.2.2.2
  refine va_calll (va_runS (As := as.map (cv z.1)) (rest := st.map (cv z.1)) ⟨hx, hb, hml, hown, hts⟩ (hM l z) (va_cwS n hts (lw_wsS hm hf) rfl rfl rfl hf.2.2.2.1 ⟨by show d1 + 1 ≤ R.frames; omega, by show 8 + (n1 + 11) + 60 * d1 ≤ R.locals; omega⟩) ⟨PreB_blind, fun U hU hW => ⟨by simp [cv], by rw [hU]; exact hP, ZK.moved hW.alike hK, ZS.moved hW.alike (by rw [hU]; exact hS0.kept hS.2.1), hD⟩⟩ rfl (by rw [List.length_map]; exact hn) hl.1 hstk (lv_room hsum) hd ⟨hcs.1, hcs.2⟩) hS (fun q _ hq => hq) (fun q hq => hq) (fun r1 u t H1 locs1 ht hvm hw hB hz1 hk1 hS1 => ?_)
  obtain ⟨rfl, rfl⟩ := hw
  exact K H1 locs1 lA (by rw [ht] at hB; exact hB) hS1 hl
theorem st_callSV {x : Cx} {own : String} {cc : ByteArray} {nL d pc : Nat} {ls st : List Value} {h : Hp} {idx n n1 d1 : Nat} {y : MethodName} {c1 : ByteArray} {as : List Value} {h2 : Hp} (g : Gx x own cc nL d) (hd : decode cc pc = .ok (.invokestatic idx, 3)) (hm : Cond.methodLink own idx y ∈ lw_tbl) (hf : MfS y c1 n1 none n) (hn : as.length = n) (hst : (st.map fun v => v.category).sum ≤ 8) (hd1 : d1 + 1 ≤ d) (hM : CtV y c1 n1 d1 as h h2) (K : WA x (pc + 3) ls (st) h2) : WA x pc ls (as.reverse ++ st) h := by
  obtain ⟨p, l, e, R, s, m, args, below, meth, c, z, ⟨cs, sl, nL'⟩, Q⟩ := x
  obtain ⟨hx, hb, hml, hown, hts, hr, hcs, hK, hS0, hD, hnL⟩ := g
  subst hnL
  have hsum : ((st.map (cv z.1)).map fun v => v.category).sum ≤ 8 := by rw [List.map_map]; have e : ((fun v => v.category) ∘ cv z.1) = fun v : Value => v.category := funext fun v => cv_cat v; rw [e]; exact hst
  have hstk : (as.reverse ++ st).map (cv z.1) = (as.map (cv z.1)).reverse ++ st.map (cv z.1) := by simp [cv]
  have hroom : rmd d1 = { frames := d1, cells := 0, slots := 0, locals := 60 * d1 } := rfl
  intro H locs lA hP hS hl
  have hn41 := hf.2.2.2.2
  refine va_callv (va_runS (As := as.map (cv z.1)) (rest := st.map (cv z.1)) ⟨hx, hb, hml, hown, hts⟩ (hM l z) (va_cwS n hts (lw_wsS hm hf) rfl rfl rfl hf.2.2.2.1 ⟨by show d1 + 1 ≤ R.frames; omega, by show 8 + (n1 + 11) + 60 * d1 ≤ R.locals; omega⟩) ⟨PreB_blind, fun U hU hW => ⟨by simp [cv], by rw [hU]; exact hP, ZK.moved hW.alike hK, ZS.moved hW.alike (by rw [hU]; exact hS0.kept hS.2.1), hD⟩⟩ rfl (by rw [List.length_map]; exact hn) hl.1 hstk (lv_room hsum) hd ⟨hcs.1, hcs.2⟩) hS (fun q _ hq => hq) (fun q hq => hq) (fun u t H1 locs1 ht hvm hw hB hz1 hk1 hS1 => ?_)
  cases hw
  exact K H1 locs1 lA (by rw [ht] at hB; exact hB) hS1 hl
theorem st_iret {x : Cx} {own : String} {cc : ByteArray} {nL d pc : Nat} {ls : List Value} {h : Hp} {ty : FieldType} {r : Int32} (g : Gx x own cc nL d) (hd : decode cc pc = .ok (.ireturn, 1)) (hn : narrow ty (.int r) = .int r) (hz : ty = .boolean → r = 0 ∨ r = 1) (K : RtI x ty r h) : WA x pc ls [.int r] h := by
  obtain ⟨p, l, e, R, s, m, args, below, meth, c, z, ⟨cs, sl, nL'⟩, Q⟩ := x
  obtain ⟨hx, hb, hml, hown, hts, hr, hcs, hK, hS0, hD, hnL⟩ := g
  subst hnL
  obtain ⟨k1, k2, rfl, rfl, rfl⟩ := K
  exact fun H locs lA hP hS hl => W.zret hx hb k1 hn (fun t ht hW => ⟨⟨r, h, rfl, ⟨rfl, rfl, hz⟩, by show ZP z h t.heap; rw [ht]; exact hP⟩, hS.F ht⟩) hS.2.2 hd k2
theorem st_lret {x : Cx} {own : String} {cc : ByteArray} {nL d pc : Nat} {ls : List Value} {h : Hp} {r : Int64} (g : Gx x own cc nL d) (hd : decode cc pc = .ok (.lreturn, 1)) (K : RtL x r h) : WA x pc ls [.long r] h := by
  obtain ⟨p, l, e, R, s, m, args, below, meth, c, z, ⟨cs, sl, nL'⟩, Q⟩ := x
  obtain ⟨hx, hb, hml, hown, hts, hr, hcs, hK, hS0, hD, hnL⟩ := g
  subst hnL
  obtain ⟨k1, k2, rfl, rfl, rfl⟩ := K
  exact fun H locs lA hP hS hl => W.lret hx hb k1 (fun t ht hW => ⟨⟨r, h, rfl, ⟨rfl, rfl⟩, by show ZP z h t.heap; rw [ht]; exact hP⟩, hS.F ht⟩) hS.2.2 hd k2
theorem st_vret {x : Cx} {own : String} {cc : ByteArray} {nL d pc : Nat} {ls : List Value} {h : Hp} (g : Gx x own cc nL d) (hd : decode cc pc = .ok (.return_, 1)) (K : RtV x h) : WA x pc ls [] h := by
  obtain ⟨p, l, e, R, s, m, args, below, meth, c, z, ⟨cs, sl, nL'⟩, Q⟩ := x
  obtain ⟨hx, hb, hml, hown, hts, hr, hcs, hK, hS0, hD, hnL⟩ := g
  subst hnL
  obtain ⟨k1, k2, rfl, rfl, rfl⟩ := K
  exact fun H locs lA hP hS hl => W.vret hx hb k1 (fun t ht hW => ⟨⟨h, rfl, rfl, by show ZP z h t.heap; rw [ht]; exact hP⟩, hS.F ht⟩) hS.2.2 hd k2
theorem ct_ofI {y : MethodName} {own : String} {c1 : ByteArray} {n1 d : Nat} {as : List Value} {h h2 : Hp} {ty : FieldType} {r : Int32} (ls : List Value) (hpl : plainName y.cls = true) (hyc : y.cls = own) (hsz : ∀ ρ : Nat → Nat, (lg_sl (as.map (cv ρ))).length ≤ n1) (hls : ∀ ρ : Nat → Nat, lv_args 0 (as.map (cv ρ)) = lvo ρ 0 ls) (body : ∀ x : Cx, Gx x own c1 n1 d → RtI x ty r h2 → WA x 0 ls [] h) : CtI y c1 n1 ty d as h r h2 := by
  intro l z
  refine Met.ofW (cc := c1) (maxL := n1) (ret := (some ty)) hpl rfl ?_
  intro p e s m args below meth c s₁ B hml hv
  obtain ⟨rfl, hP, hK, hS0, hD⟩ := hv
  have hts := atoms_spec B.pre
  have hown : s.vm.findClass own = some m.cls := by rw [← hyc]; exact findClass_of_methodNamed B.named
  have hl := lv_entry (as.map (cv z.1)) (n := n1) (hsz z.1)
  rw [lg_entry_eq]
  rw [hls] at hl
  exact body (p, l, e, rmd d, s, m, (as.map (cv z.1)).toArray, below, meth, c, z, (0, 0, n1), MQ below (QI z ty r h2) (as.map (cv z.1)).toArray s 0 0 z.2.2.2) ⟨B.exec, B.bytes, hml, hown, fun w hw => hts w (List.mem_cons_of_mem _ hw), ⟨Nat.le_refl _, Nat.le_refl _⟩, ⟨Nat.le_refl _, Nat.le_refl _⟩, hK, hS0, hD, rfl⟩ ⟨B.returns, B.notSynchronized, rfl, rfl, rfl⟩ s.heap [] _ hP va_S.rf hl
theorem ct_ofL {y : MethodName} {own : String} {c1 : ByteArray} {n1 d : Nat} {as : List Value} {h h2 : Hp} {r : Int64} (ls : List Value) (hpl : plainName y.cls = true) (hyc : y.cls = own) (hsz : ∀ ρ : Nat → Nat, (lg_sl (as.map (cv ρ))).length ≤ n1) (hls : ∀ ρ : Nat → Nat, lv_args 0 (as.map (cv ρ)) = lvo ρ 0 ls) (body : ∀ x : Cx, Gx x own c1 n1 d → RtL x r h2 → WA x 0 ls [] h) : CtL y c1 n1 d as h r h2 := by
  intro l z
  refine Met.ofW (cc := c1) (maxL := n1) (ret := (some .long)) hpl rfl ?_
  intro p e s m args below meth c s₁ B hml hv
  obtain ⟨rfl, hP, hK, hS0, hD⟩ := hv
  have hts := atoms_spec B.pre
  have hown : s.vm.findClass own = some m.cls := by rw [← hyc]; exact findClass_of_methodNamed B.named
  have hl := lv_entry (as.map (cv z.1)) (n := n1) (hsz z.1)
  rw [lg_entry_eq]
  rw [hls] at hl
  exact body (p, l, e, rmd d, s, m, (as.map (cv z.1)).toArray, below, meth, c, z, (0, 0, n1), MQ below (QL z r h2) (as.map (cv z.1)).toArray s 0 0 z.2.2.2) ⟨B.exec, B.bytes, hml, hown, fun w hw => hts w (List.mem_cons_of_mem _ hw), ⟨Nat.le_refl _, Nat.le_refl _⟩, ⟨Nat.le_refl _, Nat.le_refl _⟩, hK, hS0, hD, rfl⟩ ⟨B.returns, B.notSynchronized, rfl, rfl, rfl⟩ s.heap [] _ hP va_S.rf hl
theorem ct_ofV {y : MethodName} {own : String} {c1 : ByteArray} {n1 d : Nat} {as : List Value} {h h2 : Hp}  (ls : List Value) (hpl : plainName y.cls = true) (hyc : y.cls = own) (hsz : ∀ ρ : Nat → Nat, (lg_sl (as.map (cv ρ))).length ≤ n1) (hls : ∀ ρ : Nat → Nat, lv_args 0 (as.map (cv ρ)) = lvo ρ 0 ls) (body : ∀ x : Cx, Gx x own c1 n1 d → RtV x h2 → WA x 0 ls [] h) : CtV y c1 n1 d as h h2 := by
  intro l z
  refine Met.ofW (cc := c1) (maxL := n1) (ret := none) hpl rfl ?_
  intro p e s m args below meth c s₁ B hml hv
  obtain ⟨rfl, hP, hK, hS0, hD⟩ := hv
  have hts := atoms_spec B.pre
  have hown : s.vm.findClass own = some m.cls := by rw [← hyc]; exact findClass_of_methodNamed B.named
  have hl := lv_entry (as.map (cv z.1)) (n := n1) (hsz z.1)
  rw [lg_entry_eq]
  rw [hls] at hl
  exact body (p, l, e, rmd d, s, m, (as.map (cv z.1)).toArray, below, meth, c, z, (0, 0, n1), MQ below (QV z h2) (as.map (cv z.1)).toArray s 0 0 z.2.2.2) ⟨B.exec, B.bytes, hml, hown, fun w hw => hts w (List.mem_cons_of_mem _ hw), ⟨Nat.le_refl _, Nat.le_refl _⟩, ⟨Nat.le_refl _, Nat.le_refl _⟩, hK, hS0, hD, rfl⟩ ⟨B.returns, B.notSynchronized, rfl, rfl, rfl⟩ s.heap [] _ hP va_S.rf hl
theorem bo_nar {r : Int32} (h : r = 0 ∨ r = 1) : narrow .boolean (.int r) = .int r := by
  rcases h with rfl | rfl <;> rfl
theorem gd_some {c : Prop} [Decidable c] {τ : Type} {A : Option τ} {out : τ} (H : (if c then A else none) = some out) : c ∧ A = some out := by
  split at H
  · exact ⟨by assumption, H⟩
  · cases H
theorem it_R {σ ρ τ : Type} {b : σ → Option (σ ⊕ (σ ⊕ ρ))} {n : Nat} {s : σ} {f : σ → Option τ} {k : ρ → Option τ} {out : τ} (H : (iter b n s).bind (Sum.elim f k) = some out) : ∃ a, iter b n s = some a ∧ ((∃ t, a = .inl t ∧ f t = some out) ∨ (∃ r, a = .inr r ∧ k r = some out)) := by
  obtain ⟨a, h1, h2⟩ := bind_some H
  cases a with
  | inl t => exact ⟨_, h1, Or.inl ⟨t, rfl, h2⟩⟩
  | inr r => exact ⟨_, h1, Or.inr ⟨r, rfl, h2⟩⟩
theorem wa_lt {x : Cx} {pc : Nat} {ls st : List Value} {h : Hp} {e : Int32} {τ : Type} {k : Int32 → Option τ} {out : τ} (E : lt e k = some out) (K : ∀ y, k y = some out → WA x pc ls (.int y :: st) h) : WA x pc ls (.int e :: st) h := K e E
theorem wa_ltL {x : Cx} {pc : Nat} {ls st : List Value} {h : Hp} {e : Int64} {τ : Type} {k : Int64 → Option τ} {out : τ} (E : lt e k = some out) (K : ∀ y, k y = some out → WA x pc ls (.long y :: st) h) : WA x pc ls (.long e :: st) h := K e E
theorem wa_ltH {x : Cx} {pc : Nat} {ls st : List Value} {e : Hp} {τ : Type} {k : Hp → Option τ} {out : τ} (E : lt e k = some out) (K : ∀ y, k y = some out → WA x pc ls st y) : WA x pc ls st e := K e E
theorem wa_drop1 {x : Cx} {pc : Nat} {ls st : List Value} {h : Hp} (i : Nat) (K : WA x pc (ls.set i .null) st h) : WA x pc ls st h := by
  obtain ⟨p, l, e, R, s, m, args, below, meth, c, z, ⟨cs, sl, nL'⟩, Q⟩ := x
  exact fun H locs lA hP hS hl => K H locs lA hP hS (lvo_drop (set_drop ls i) hl)
theorem wa_drop {x : Cx} {pc : Nat} {st : List Value} {h : Hp} (ks : List Nat) {ls : List Value} (K : WA x pc (ks.foldl (fun l k => l.set k .null) ls) st h) : WA x pc ls st h := by
  induction ks generalizing ls with
  | nil => exact K
  | cons k t ih => exact wa_drop1 k (ih K)
