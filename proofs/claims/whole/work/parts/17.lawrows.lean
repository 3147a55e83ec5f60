/-! THE CLAIM OUT OF ONE WALK OF THE LAW'S BODY. Your part is whole_start (and what it stands on); all else here is the same for every law, but numbers. -/
def R_law : String := "ForgivenStreetLaw"
def lw_P (b : Addr) (xs : List Int32) (args : Array Value) (s : State) : Prop := args = #[.ref b] ∧ s.IntsAt b xs ∧ xs.length ≤ 3072 ∧ (Jvm.Cond.and given_1 narrow_1).before args s = true
def lw_Q (_ : Array Value) (s : State) (o : Outcome) (t : State) : Prop := o = .returned (some (.int 1)) ∧ Framed s o t [] 600000 7302250
def lw_Z (below : List Frame) (a : Array Value) (s : State) : State → Prop := fun t => ∃ o, t.status = .running ∧ Ended t below o ∧ lw_Q a s o t
/-- the law's own end, with 1 on the stack, nothing written that was there before, its room as the claim has it -/
theorem lw_ret {p : Program} {l : Launch} {e : Env} {s : State} {m : MethodId} {below : List Frame} {meth : Method} {c : Code} {b : Nat} (hx : p.tables.exec = Jvm.exec) (hb : c.code = code) (hr : meth.sig.returnType = ret) (hlocks : meth.locks = false) {pc : Nat} {H : Heap} {ls : Array Slot} (hdg : decode code pc = .ok (.ireturn, 1)) : W p l e room_1 s m #[Value.ref b] below meth c H [] 600000 7302250 (lw_Z below #[Value.ref b] s) (F0 m pc ls [.int 1]) := by
  intro T hT X
  obtain ⟨fs, hret, hrun, hended, hW, hframe⟩ := X.leave (v := some (.int 1)) (hlocks := hlocks) (fun h => by rw [hr] at h; cases h)
  have hmeth' : T.vm.method? m = some meth := X.method'
  refine ⟨T.setFrames fs, ?_, .returned (some (.int 1)), hrun, hended, rfl, ⟨_, rfl⟩, hW, hframe⟩
  jvm_step X.here [X.here.top, hx, hb, hdg, hmeth', hr, ret, narrow_b1]
  (try refine ⟨rfl, ?_⟩); (try refine ⟨rfl, ?_⟩)
  first | (intro acts; rw [hret _ acts rfl rfl rfl]) | rw [hret _ _ rfl rfl rfl]
  exact Steps.refl _
/-- what holds at the law's entry: the machine, the code, the tables' words (any of lw_tbl by 'hts w (by decide +kernel)'), the script of L ints xs at the cell b, what the Statement gives of the start (any of its parts by flat_of_before) -/
def lw_At (p : Program) (s : State) (m : MethodId) (meth : Method) (c : Code) (b L : Nat) (xs : Nat → Int32) : Prop :=
  p.tables.exec = Jvm.exec ∧ c.code = code ∧ meth.sig.returnType = ret ∧ c.maxLocals = 4 ∧ s.vm.findClass R_law = some m.cls ∧ (∀ w ∈ lw_tbl, w.before #[Value.ref b] s = true) ∧ va_X b L xs s s.heap ∧ b < s.heap.size ∧ meth.locks = false ∧ (Jvm.Cond.and given_1 narrow_1).before #[Value.ref b] s = true
/-- the script, as the number 94 -/
def Gs (x : Cx) (L : Nat) (xs : Nat → Int32) : Prop := match x with
  | (_, _, _, _, s, _, _, _, _, _, z, _, _) => va_X (z.1 94) L xs s s.heap ∧ z.1 94 < s.heap.size ∧ ¬ z.2.2.2 (z.1 94)
def rdX (L : Nat) (xs : Nat → Int32) (i : Int32) : Option Int32 := if i < 0 ∨ L ≤ i.toNatClampNeg then none else some (xs i.toNatClampNeg)
def RtW (x : Cx) (r : Int32) : Prop := match x with
  | (_, _, _, R, s, _, args, below, meth, _, z, (cs, sl, _), Q) => r = 1 ∧ R = room_1 ∧ meth.sig.returnType = ret ∧ meth.locks = false ∧ (∃ b, args = #[Value.ref b] ∧ Q = lw_Z below #[Value.ref b] s) ∧ (cs ≤ 600000 ∧ sl ≤ 7302250) ∧ ∀ q, z.2.2.2 q → s.heap.size ≤ q
theorem st_sald {x : Cx} {own : String} {cc : ByteArray} {nL d pc : Nat} {ls st : List Value} {h : Hp} {L : Nat} {xs : Nat → Int32} {τ : Type} {out : τ} {i : Int32} {k : Int32 → Option τ} (g : Gx x own cc nL d) (gs : Gs x L xs) (hd : decode cc pc = .ok (.iaload, 1)) (E : (rdX L xs i).bind k = some out) (K : ∀ v, k v = some out → WA x (pc + 1) ls (.int v :: st) h) : WA x pc ls (.int i :: .ref 94 :: st) h := by
  obtain ⟨p, l, e, R, s, m, args, below, meth, c, z, ⟨cs, sl, nL'⟩, Q⟩ := x
  obtain ⟨hx, hb, hml, hown, hts, hr, hcs, hK, hS0, hD, hnL⟩ := g
  subst hnL
  obtain ⟨v, h1, h2⟩ := bind_some E
  unfold rdX at h1
  split at h1
  · cases h1
  next hin =>
    cases h1
    exact fun H locs lA hP hS hl => va_sld hx hb gs.1 gs.2.1 gs.2.2 hS hin hd (K _ h2 H locs lA hP hS hl)
theorem st_salen {x : Cx} {own : String} {cc : ByteArray} {nL d pc : Nat} {ls st : List Value} {h : Hp} {L : Nat} {xs : Nat → Int32} (g : Gx x own cc nL d) (gs : Gs x L xs) (hd : decode cc pc = .ok (.arraylength, 1)) (K : WA x (pc + 1) ls (.int (Int32.ofNat L) :: st) h) : WA x pc ls (.ref 94 :: st) h := by
  obtain ⟨p, l, e, R, s, m, args, below, meth, c, z, ⟨cs, sl, nL'⟩, Q⟩ := x
  obtain ⟨hx, hb, hml, hown, hts, hr, hcs, hK, hS0, hD, hnL⟩ := g
  subst hnL
  exact fun H locs lA hP hS hl => va_slen hx hb gs.1 gs.2.1 gs.2.2 hS hd (K H locs lA hP hS hl)
theorem st_lawret {x : Cx} {own : String} {nL d pc : Nat} {ls : List Value} {h : Hp} (g : Gx x own cL_law nL d) (hd : decode cL_law pc = .ok (.ireturn, 1)) (K : RtW x 1) : WA x pc ls [.int 1] h := by
  obtain ⟨p, l, e, R, s, m, args, below, meth, c, z, ⟨cs, sl, nL'⟩, Q⟩ := x
  obtain ⟨hx, hb, hml, hown, hts, hr, hcs, hK, hS0, hD, hnL⟩ := g
  subst hnL
  obtain ⟨-, rfl, k1, k2, ⟨b, rfl, rfl⟩, k3, k4⟩ := K
  exact fun H locs lA hP hS hl => va_forget (fun q hq => k4 _ (hS.2.2 q hq)) (W.widen k3.1 k3.2 (lw_ret hx hb k1 k2 hd))
theorem bi_32 : (Int8.ofInt 32).toInt32 = 32 := by decide
theorem ii_6 (a : Int32) : a + Int32.ofInt 6 = a + 6 := by rw [show Int32.ofInt 6 = 6 by decide]
