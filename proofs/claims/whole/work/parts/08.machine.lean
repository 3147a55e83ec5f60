/-! the cells of a class and of its reference, as numbers: ints, longs, and the references that change -/
abbrev Hp : Type := (Nat → Nat → Int32) × (Nat → Nat → Int64) × (Nat → Nat → Nat)
/-- by cell: 0 an object, of which kind; 1 ints, 2 longs, 3 rows, how many -/
def shL : List (Nat × Nat) := [(0, 7), (0, 3), (1, 10), (1, 10), (1, 12), (1, 12), (1, 12), (0, 4), (1, 120), (1, 121), (1, 121), (1, 6), (1, 121), (0, 5), (1, 12), (1, 12), (1, 6), (0, 5), (1, 12), (1, 12), (1, 6), (0, 5), (1, 12), (1, 12), (1, 6), (0, 0), (1, 40), (1, 40), (1, 40), (1, 40), (0, 6), (3, 6), (2, 60), (2, 60), (2, 60), (2, 60), (2, 60), (2, 60), (1, 6), (1, 6), (1, 6), (0, 1), (1, 50), (1, 24), (0, 2), (1, 12), (1, 12), (1, 12), (1, 12), (1, 2), (1, 12), (1, 12), (1, 10), (0, 8), (1, 12), (1, 10), (1, 10), (1, 12), (1, 12), (1, 12), (1, 12), (1, 12), (1, 120), (1, 60), (1, 60), (1, 60), (1, 200), (1, 61), (1, 61), (1, 61), (1, 200), (1, 200), (1, 6), (1, 6), (1, 37), (1, 6), (1, 160), (1, 50), (1, 24), (1, 6), (1, 6), (2, 360), (1, 37), (1, 37), (1, 2), (1, 10)]
def sh (k : Nat) : Nat × Nat := shL.getD k (9, 0)
def clNL : List Nat := [6, 6, 7, 7, 9, 5, 4, 15, 48]
def clN (c : Nat) : Nat := clNL.getD c 0
/-- by kind and field: 0 an int, 3 a boolean, 1 a reference that stays, 2 one that changes -/
def ftL : List (List Nat) := [[1, 1, 1, 1, 0, 0], [0, 1, 1, 0, 0, 0], [1, 1, 1, 1, 0, 0, 0], [0, 1, 1, 0, 1, 1, 1], [0, 1, 2, 0, 2, 0, 0, 1, 1], [1, 1, 1, 0, 0], [1, 1, 1, 1], [1, 1, 1, 1, 1, 3, 0, 1, 1, 1, 1, 1, 1, 1, 1], [1, 0, 1, 1, 0, 1, 1, 1, 1, 1, 0, 0, 1, 3, 0, 1, 1, 1, 1, 0, 0, 0, 0, 1, 1, 1, 1, 1, 1, 1, 3, 0, 1, 1, 0, 0, 1, 0, 1, 0, 1, 1, 1, 1, 1, 1, 1, 1]]
def ft (c j : Nat) : Nat := (ftL.getD c []).getD j 0
/-- the references that stay -/
def pfL : List (List Nat) := [[1, 7, 13, 17, 21, 0, 0, 25, 30, 41, 44, 49, 50, 51, 52], [0, 2, 3, 0, 4, 5, 6], [], [], [], [], [], [0, 8, 9, 0, 10, 0, 0, 11, 12], [], [], [], [], [], [14, 15, 16, 0, 0], [], [], [], [18, 19, 20, 0, 0], [], [], [], [22, 23, 24, 0, 0], [], [], [], [26, 27, 28, 29, 0, 0], [], [], [], [], [31, 38, 39, 40], [32, 33, 34, 35, 36, 37], [], [], [], [], [], [], [], [], [], [0, 42, 43, 0, 0, 0], [], [], [45, 46, 47, 48, 0, 0, 0], [], [], [], [], [], [], [], [], [54, 0, 55, 56, 0, 57, 58, 59, 60, 61, 0, 0, 62, 0, 0, 63, 64, 65, 66, 0, 0, 0, 0, 67, 68, 69, 70, 71, 72, 73, 0, 0, 74, 75, 0, 0, 76, 0, 77, 0, 78, 79, 80, 81, 82, 83, 84, 85], [], [], [], [], [], [], [], [], [], [], [], [], [], [], [], [], [], [], [], [], [], [], [], [], [], [], [], [], [], [], [], []]
def pf (k j : Nat) : Nat := (pfL.getD k []).getD j 0
def tyk (k : Nat) : FieldType := if (sh k).1 = 1 then .int else if (sh k).1 = 2 then .long else .array .long
def tbL : List (List Int32) := [[0, 0, 0, 1, 0, 0, 0], [999, 11, 12, 9, 99, 1, 99], [-1, 0, 0, 2, 1, 3, 0, 4], [1, 10, 11, 2, 20, 0, 0, 0, 0, 30, 0, 0, 0, 41, 40, 0, 0, 0, 50, 0, 0, 0, 0, 60, 70, 0, 0, 0, 0, 80, 0, 81]]
def tbN (t : Nat) : Nat := (tbL.getD (t - 90) []).length
def tbF (t j : Nat) : Int32 := (tbL.getD (t - 90) []).getD j 0
/-- the words that hold in every state behind -/
def lw_tg : List Cond := lw_tbl.filter goodWord
theorem lw_good : GoodIn lw_tg lw_tg := fun w hw => ⟨hw, good_of_word (List.mem_filter.mp hw).2⟩
theorem tg {w : Cond} (h : w ∈ lw_tbl) (hg : goodWord w = true) : w ∈ lw_tg := List.mem_filter.mpr ⟨h, hg⟩
def cv (ρ : Nat → Nat) : Value → Value
  | .ref a => .ref (ρ a)
  | v => v
def fvl (ρ : Nat → Nat) (h : Hp) (c k j : Nat) : Value := if ft c j = 1 then .ref (ρ (pf k j)) else if ft c j = 2 then .ref (ρ (h.2.2 k j)) else .int (h.1 k j)
def ent (ρ : Nat → Nat) (CA : Nat → ClassId) (h : Hp) (k : Nat) : va_E :=
  if (sh k).1 = 0 then .inr ((sh k).2, (List.range (clN (sh k).2)).map (fvl ρ h (sh k).2 k))
  else if (sh k).1 = 1 then .inl (CA k, (sh k).2, .inl (h.1 k))
  else if (sh k).1 = 2 then .inl (CA k, (sh k).2, .inr (.inl (h.2.1 k)))
  else .inl (CA k, (sh k).2, .inr (.inr (.inr (.inr (fun j => if j < (sh k).2 then some (ρ (pf k j)) else none)))))
def wld (ρ : Nat → Nat) (CA : Nat → ClassId) (h : Hp) : va_W := (List.range 86).map fun k => (ρ k, ent ρ CA h k)
theorem wld_at {ρ : Nat → Nat} {CA : Nat → ClassId} {h : Hp} {k : Nat} (hk : k < 86) : (wld ρ CA h)[k]? = some (ρ k, ent ρ CA h k) := by
  unfold wld
  rw [List.getElem?_map, List.getElem?_range hk]
  rfl
theorem wld_len {ρ : Nat → Nat} {CA : Nat → ClassId} {h : Hp} : (wld ρ CA h).length = 86 := by simp [wld]
theorem wld_set {ρ : Nat → Nat} {CA : Nat → ClassId} {h h' : Hp} {k : Nat} {e : va_E} (hk : k < 86) (he : ent ρ CA h' k = e) (ho : ∀ j, j ≠ k → ent ρ CA h' j = ent ρ CA h j) : (wld ρ CA h).set k (ρ k, e) = wld ρ CA h' := by
  apply List.ext_getElem?
  intro i
  by_cases hi : i < 86
  · rw [wld_at hi]
    by_cases hik : i = k
    · subst hik
      rw [List.getElem?_set_self (by rw [wld_len]; exact hi), he]
    · rw [List.getElem?_set_ne (Ne.symm hik), wld_at hi, ho i hik]
  · rw [List.getElem?_eq_none (by rw [List.length_set, wld_len]; omega), List.getElem?_eq_none (by rw [wld_len]; omega)]
theorem ent_congr {ρ : Nat → Nat} {CA : Nat → ClassId} {h h' : Hp} {k : Nat} (h1 : h'.1 k = h.1 k) (h2 : h'.2.1 k = h.2.1 k) (h3 : h'.2.2 k = h.2.2 k) : ent ρ CA h' k = ent ρ CA h k := by
  unfold ent fvl
  rw [h1, h2, h3]
theorem sh_lt {k : Nat} (h : (sh k).1 ≠ 9) : k < 86 := by
  rcases Nat.lt_or_ge k 86 with q | q
  · exact q
  · refine absurd ?_ h
    unfold sh
    rw [List.getD_eq_getElem?_getD, List.getElem?_eq_none (show shL.length ≤ k from q)]
    rfl
/-- the cell a holds f now -/
def upI (h : Hp) (a : Nat) (f : Nat → Int32) : Hp := (fun k => if k = a then f else h.1 k, h.2)
def upL (h : Hp) (a : Nat) (f : Nat → Int64) : Hp := (h.1, fun k => if k = a then f else h.2.1 k, h.2.2)
def upR (h : Hp) (a j r : Nat) : Hp := (h.1, h.2.1, fun k i => if k = a ∧ i = j then r else h.2.2 k i)
/-- the place j of the cell a becomes v -/
def stI (h : Hp) (a j : Nat) (v : Int32) : Hp := upI h a (upd (h.1 a) j v)
def stL (h : Hp) (a j : Nat) (v : Int64) : Hp := upL h a (vp_updL (h.2.1 a) j v)
/-- how many ints, longs a cell holds -/
def SI (a : Nat) : Nat := if (sh a).1 = 1 then (sh a).2 else 0
def SL (a : Nat) : Nat := if (sh a).1 = 2 then (sh a).2 else 0
def SR (a : Nat) : Nat := if (sh a).1 = 3 then (sh a).2 else 0
def rdI (h : Hp) (a : Nat) (i : Int32) : Option Int32 := if i < 0 ∨ SI a ≤ i.toNatClampNeg then none else some (h.1 a i.toNatClampNeg)
def wrI (h : Hp) (a : Nat) (i v : Int32) : Option Hp := if i < 0 ∨ SI a ≤ i.toNatClampNeg then none else some (stI h a i.toNatClampNeg v)
def rdL (h : Hp) (a : Nat) (i : Int32) : Option Int64 := if i < 0 ∨ SL a ≤ i.toNatClampNeg then none else some (h.2.1 a i.toNatClampNeg)
def wrL (h : Hp) (a : Nat) (i : Int32) (v : Int64) : Option Hp := if i < 0 ∨ SL a ≤ i.toNatClampNeg then none else some (stL h a i.toNatClampNeg v)
def rdR (a : Nat) (i : Int32) : Option Nat := if i < 0 ∨ SR a ≤ i.toNatClampNeg then none else some (pf a i.toNatClampNeg)
def rdT (t : Nat) (i : Int32) : Option Int32 := if i < 0 ∨ tbN t ≤ i.toNatClampNeg then none else some (tbF t i.toNatClampNeg)
def lnI (a : Nat) : Option Int32 := if SI a = 0 then none else some (Int32.ofNat (SI a))
def lnL (a : Nat) : Option Int32 := if SL a = 0 then none else some (Int32.ofNat (SL a))
def dvI (a b : Int32) : Option Int32 := if b = 0 then none else some (a / b)
def rmI (a b : Int32) : Option Int32 := if b = 0 then none else some (a % b)
def cpI (h : Hp) (a : Nat) (i : Int32) (b : Nat) (j n : Int32) : Option Hp := if i < 0 ∨ j < 0 ∨ n < 0 ∨ SI a = 0 ∨ SI b = 0 ∨ SI a < i.toNatClampNeg + n.toNatClampNeg ∨ SI b < j.toNatClampNeg + n.toNatClampNeg then none else some (upI h b (va_cpy (h.1 a) (h.1 b) i.toNatClampNeg j.toNatClampNeg n.toNatClampNeg))
def cpL (h : Hp) (a : Nat) (i : Int32) (b : Nat) (j n : Int32) : Option Hp := if i < 0 ∨ j < 0 ∨ n < 0 ∨ SL a = 0 ∨ SL b = 0 ∨ SL a < i.toNatClampNeg + n.toNatClampNeg ∨ SL b < j.toNatClampNeg + n.toNatClampNeg then none else some (upL h b (va_cpy (h.2.1 a) (h.2.1 b) i.toNatClampNeg j.toNatClampNeg n.toNatClampNeg))
/-- a name for a number -/
def lt {α β : Type} (e : α) (k : α → β) : β := k e
/-- round and round -/
def iter {σ α : Type} (b : σ → Option (σ ⊕ α)) : Nat → σ → Option α
  | 0, _ => none
  | n + 1, s => (b s).bind (Sum.elim (fun t => iter b n t) some)
def FU : Nat := 10000
theorem bind_some {α β : Type} {o : Option α} {k : α → Option β} {r : β} (h : o.bind k = some r) : ∃ v, o = some v ∧ k v = some r := by
  cases o with
  | none => cases h
  | some v => exact ⟨v, rfl, h⟩
theorem iter_W {σ α : Type} {b : σ → Option (σ ⊕ α)} {P : σ → Prop} {E : α → Prop} (hb : ∀ s o, b s = some o → Sum.elim P E o → P s) : ∀ (n : Nat) (s : σ) (a : α), iter b n s = some a → E a → P s := by
  intro n
  induction n with
  | zero => intro s a h _; cases h
  | succ n ih =>
    intro s a h he
    obtain ⟨o, h1, h2⟩ := bind_some (show (b s).bind (Sum.elim (fun t => iter b n t) some) = some a from h)
    refine hb s o h1 ?_
    cases o with
    | inl t => exact ih t a h2 he
    | inr c =>
      cases h2
      exact he
/-! what a method stands on -/
abbrev Zx : Type := (Nat → Nat) × (Nat → ClassId) × va_G × (Nat → Prop)
def ZK (z : Zx) (U : State) : Prop := va_K z.2.2.1 vwCl [] U ∧ ∀ k, k < 86 → (sh k).1 ≠ 0 → ArrOfT U (z.2.1 k) (tyk k) ∧ va_RA U (z.2.1 k) (tyk k)
def ZS (z : Zx) (U : State) (H : Heap) : Prop := (∀ t, 90 ≤ t → t < 94 → va_T .int (z.1 t) (tbN t) (fun j => .int (tbF t j)) z.2.2.2 U H) ∧ va_Z RX7 "LEAST" "[I" (.ref (z.1 90)) z.2.2.2 U H ∧ va_Z RX7 "MOST" "[I" (.ref (z.1 91)) z.2.2.2 U H ∧ va_Z RX1 "ABOVE" "[I" (.ref (z.1 92)) z.2.2.2 U H ∧ va_Z RX1 "OWN" "[I" (.ref (z.1 93)) z.2.2.2 U H
def ZD (z : Zx) : Prop := ∀ h, va_D z.2.2.2 (wld z.1 z.2.1 h)
def ZP (z : Zx) (h : Hp) (H : Heap) : Prop := va_P z.2.2.1 vwCl (wld z.1 z.2.1 h) H
theorem ZK.moved {z : Zx} {u U : State} (hvm : u.vm.Alike U.vm) (h : ZK z u) : ZK z U := ⟨va_K.moved hvm h.1, fun k h1 h2 => ⟨arrOfT_moved hvm (h.2 k h1 h2).1, (h.2 k h1 h2).2.moved hvm⟩⟩
theorem ZS.moved {z : Zx} {u U : State} {H : Heap} (hvm : u.vm.Alike U.vm) (h : ZS z u H) : ZS z U H := ⟨fun t h1 h2 => (h.1 t h1 h2).moved hvm, h.2.1.moved hvm, h.2.2.1.moved hvm, h.2.2.2.1.moved hvm, h.2.2.2.2.moved hvm⟩
theorem ZS.kept {z : Zx} {U : State} {H H1 : Heap} (h : ZS z U H) (hq : ∀ a : Nat, a < H.size → ¬ z.2.2.2 a → H1[a]? = H[a]?) : ZS z U H1 := ⟨fun t h1 h2 => (h.1 t h1 h2).kept hq, h.2.1.kept hq, h.2.2.1.kept hq, h.2.2.2.1.kept hq, h.2.2.2.2.kept hq⟩
theorem ZK.tys {z : Zx} {U : State} (h : ZK z U) {k : Nat} (hk : k < 86) (h0 : (sh k).1 ≠ 0) : va_K z.2.2.1 vwCl [(z.2.1 k, tyk k)] U := ⟨h.1.1, fun j q hj => by
  have hz : j < 1 := (List.getElem?_eq_some_iff.mp hj).1
  rw [show j = 0 by omega] at hj
  cases hj
  exact h.2 k hk h0⟩
theorem ZK.tys2 {z : Zx} {U : State} (h : ZK z U) {k k2 : Nat} (hk : k < 86) (h0 : (sh k).1 ≠ 0) (hk2 : k2 < 86) (h02 : (sh k2).1 ≠ 0) : va_K z.2.2.1 vwCl [(z.2.1 k, tyk k), (z.2.1 k2, tyk k2)] U := (h.tys hk h0).app (h.tys hk2 h02)
abbrev Cx := Program × Launch × Env × Room × State × MethodId × Array Value × List Frame × Method × Code × Zx × (Nat × Nat × Nat) × (State → Prop)
/-- the listed locals: null stands for one that nobody asks for -/
def lvo (ρ : Nat → Nat) : Nat → List Value → List (Nat × Value)
  | _, [] => []
  | i, .null :: t => lvo ρ (i + 1) t
  | i, v :: t => (i, cv ρ v) :: lvo ρ (i + 1) t
def WA (x : Cx) (pc : Nat) (ls st : List Value) (h : Hp) : Prop := match x with
  | (p, l, e, R, s, m, args, below, meth, c, z, (cs, sl, nL), Q) => ∀ (H : Heap) (locs : List Loc) (lA : Array Slot), ZP z h H → va_S z.2.2.2 s.heap H locs → lv_has lA nL (lvo z.1 0 ls) → W p l e R s m args below meth c H locs cs sl Q (F0 m pc lA (st.map (cv z.1)))
def Gx (x : Cx) (own : String) (cc : ByteArray) (nL d : Nat) : Prop := match x with
  | (p, _, _, R, s, m, args, _, _, c, z, (cs, sl, nL'), _) => p.tables.exec = Jvm.exec ∧ c.code = cc ∧ c.maxLocals = nL' ∧ s.vm.findClass own = some m.cls ∧ (∀ w ∈ lw_tg, w.before args s = true) ∧ (d ≤ R.frames ∧ 60 * d ≤ R.locals) ∧ (cs ≤ R.cells ∧ sl ≤ R.slots) ∧ ZK z s ∧ ZS z s s.heap ∧ ZD z ∧ nL' = nL
theorem lvo_mem {ρ : Nat → Nat} : ∀ (ls : List Value) (i j : Nat) (v : Value), ls[j]? = some v → v ≠ .null → (i + j, cv ρ v) ∈ lvo ρ i ls
  | [], i, j, v, h, _ => by simp at h
  | w :: t, i, 0, v, h, hv => by
    simp only [List.getElem?_cons_zero, Option.some.injEq] at h
    subst h
    cases w <;> first | exact absurd rfl hv | exact List.mem_cons_self
  | w :: t, i, j + 1, v, h, hv => by
    have h1 := lvo_mem (ρ := ρ) t (i + 1) j v (by simpa using h) hv
    rw [show i + 1 + j = i + (j + 1) by omega] at h1
    cases w <;> first | exact h1 | exact List.mem_cons_of_mem _ h1
theorem lvo_of {ρ : Nat → Nat} : ∀ (ls : List Value) (i : Nat) (q : Nat × Value), q ∈ lvo ρ i ls → ∃ j v, ls[j]? = some v ∧ v ≠ .null ∧ q = (i + j, cv ρ v)
  | [], i, q, h => by cases h
  | w :: t, i, q, h => by
    have key : q ∈ lvo ρ (i + 1) t → ∃ j v, (w :: t)[j]? = some v ∧ v ≠ .null ∧ q = (i + j, cv ρ v) := fun h => by
      obtain ⟨j, v, h1, h2, h3⟩ := lvo_of t (i + 1) q h
      exact ⟨j + 1, v, by simpa using h1, h2, by rw [h3]; congr 1; omega⟩
    cases w
    case null => exact key h
    all_goals
      rcases List.mem_cons.mp h with e | h
      · exact ⟨0, _, rfl, (fun q => by cases q), e⟩
      · exact key h
theorem lvo_at {ρ : Nat → Nat} {lA : Array Slot} {nL : Nat} {ls : List Value} (h : lv_has lA nL (lvo ρ 0 ls)) {i : Nat} {v : Value} (hi : ls[i]? = some v) (hv : v ≠ .null) : lA[i]? = some (.val (cv ρ v)) := by
  have h1 := lvo_mem (ρ := ρ) ls 0 i v hi hv
  rw [Nat.zero_add] at h1
  exact h.2.2 _ h1
/-- the local ahead of i is no long -/
def okl (ls : List Value) : Nat → Bool
  | 0 => true
  | i + 1 => match ls[i]? with
    | some (.long _) => false
    | some (.double _) => false
    | _ => true
theorem cv_cat {ρ : Nat → Nat} (v : Value) : (cv ρ v).category = v.category := by cases v <;> rfl
theorem lvo_set {ρ : Nat → Nat} {lA : Array Slot} {nL : Nat} {ls : List Value} {i : Nat} {v : Value} (hok : okl ls i = true) (h : lv_has lA nL ((i, cv ρ v) :: (lvo ρ 0 ls).filter (fun q => !(q.1 == i) && !(q.1 + 1 == i && q.2.category == 2)))) : lv_has lA nL (lvo ρ 0 (ls.set i v)) := by
  refine ⟨h.1, h.2.1, fun q hq => ?_⟩
  obtain ⟨j, w, h1, h2, rfl⟩ := lvo_of _ _ _ hq
  rw [Nat.zero_add] at hq ⊢
  by_cases hij : i = j
  · subst hij
    have hl : i < (ls.set i v).length := (List.getElem?_eq_some_iff.mp h1).1
    rw [List.length_set] at hl
    rw [List.getElem?_set_self hl] at h1
    cases h1
    exact h.2.2 (i, cv ρ v) List.mem_cons_self
  · rw [List.getElem?_set_ne hij] at h1
    refine h.2.2 (j, cv ρ w) (List.mem_cons_of_mem _ (List.mem_filter.mpr ⟨by have := lvo_mem (ρ := ρ) ls 0 j w h1 h2; rwa [Nat.zero_add] at this, ?_⟩))
    have hcat : ¬ (j + 1 = i ∧ (cv ρ w).category = 2) := by
      rintro ⟨e, hc⟩
      subst e
      simp only [okl, h1] at hok
      rw [cv_cat] at hc
      cases w <;> simp [Value.category] at hc hok
    have hji : ¬ j = i := fun e => hij e.symm
    simp only [Bool.and_eq_true, Bool.not_eq_true', beq_eq_false_iff_ne, ne_eq, Bool.and_eq_false_iff]
    refine ⟨hji, ?_⟩
    by_cases e : j + 1 = i
    · exact Or.inr (fun q => hcat ⟨e, q⟩)
    · exact Or.inl e
theorem lvo_setL {ρ : Nat → Nat} {lA : Array Slot} {nL : Nat} {ls : List Value} {i : Nat} {v : Value} (hok : okl ls i = true) (h : lv_has lA nL ((i, cv ρ v) :: (lvo ρ 0 ls).filter (fun q => !(q.1 == i) && (!(q.1 == i + 1) && !(q.1 + 1 == i && q.2.category == 2))))) : lv_has lA nL (lvo ρ 0 ((ls.set i v).set (i + 1) .null)) := by
  refine ⟨h.1, h.2.1, fun q hq => ?_⟩
  obtain ⟨j, w, h1, h2, rfl⟩ := lvo_of _ _ _ hq
  rw [Nat.zero_add] at hq ⊢
  have hj1 : ¬ i + 1 = j := by
    intro e
    subst e
    have hl : i + 1 < ((ls.set i v).set (i + 1) .null).length := (List.getElem?_eq_some_iff.mp h1).1
    rw [List.length_set] at hl
    rw [List.getElem?_set_self hl] at h1
    cases h1
    exact h2 rfl
  rw [List.getElem?_set_ne hj1] at h1
  by_cases hij : i = j
  · subst hij
    have hl : i < (ls.set i v).length := (List.getElem?_eq_some_iff.mp h1).1
    rw [List.length_set] at hl
    rw [List.getElem?_set_self hl] at h1
    cases h1
    exact h.2.2 (i, cv ρ v) List.mem_cons_self
  · rw [List.getElem?_set_ne hij] at h1
    refine h.2.2 (j, cv ρ w) (List.mem_cons_of_mem _ (List.mem_filter.mpr ⟨by have := lvo_mem (ρ := ρ) ls 0 j w h1 h2; rwa [Nat.zero_add] at this, ?_⟩))
    have hcat : ¬ (j + 1 = i ∧ (cv ρ w).category = 2) := by
      rintro ⟨e, hc⟩
      subst e
      simp only [okl, h1] at hok
      rw [cv_cat] at hc
      cases w <;> simp [Value.category] at hc hok
    have hji : ¬ j = i := fun e => hij e.symm
    have hj2 : ¬ j = i + 1 := fun e => hj1 e.symm
    simp only [Bool.and_eq_true, Bool.not_eq_true', beq_eq_false_iff_ne, ne_eq, Bool.and_eq_false_iff]
    refine ⟨hji, hj2, ?_⟩
    by_cases e : j + 1 = i
    · exact Or.inr (fun q => hcat ⟨e, q⟩)
    · exact Or.inl e
theorem lvo_drop {ρ : Nat → Nat} {lA : Array Slot} {nL : Nat} {ls ls' : List Value} (hs : ∀ (j : Nat) (v : Value), ls'[j]? = some v → v = .null ∨ ls[j]? = some v) (h : lv_has lA nL (lvo ρ 0 ls)) : lv_has lA nL (lvo ρ 0 ls') := by
  refine ⟨h.1, h.2.1, fun q hq => ?_⟩
  obtain ⟨j, w, h1, h2, rfl⟩ := lvo_of _ _ _ hq
  rcases hs j w h1 with e | e
  · exact absurd e h2
  · exact h.2.2 _ (lvo_mem ls 0 j w e h2)
theorem set_drop (ls : List Value) (i : Nat) : ∀ (j : Nat) (v : Value), (ls.set i .null)[j]? = some v → v = .null ∨ ls[j]? = some v := by
  intro j v h
  by_cases hij : i = j
  · subst hij
    have hl : i < (ls.set i .null).length := (List.getElem?_eq_some_iff.mp h).1
    rw [List.length_set] at hl
    rw [List.getElem?_set_self hl] at h
    cases h
    exact Or.inl rfl
  · rw [List.getElem?_set_ne hij] at h
    exact Or.inr h

