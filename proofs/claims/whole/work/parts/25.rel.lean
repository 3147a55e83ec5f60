/-! the street, out of the heaps: people and wrongs, a scene, what a wrong counts -/
/-- people, wrongs; house, heart; by, to, weight -/
abbrev Fo : Type := Nat × Nat × (Nat → Nat) × (Nat → Nat) × (Nat → Nat) × (Nat → Nat) × (Nat → Nat)
/-- numbers, days, forgiven, today -/
abbrev Sc : Type := (Nat → Nat) × (Nat → Nat) × (Nat → Bool) × Nat
def foP (f : Fo) : Nat := f.1
def foW (f : Fo) : Nat := f.2.1
def foH (f : Fo) : Nat → Nat := f.2.2.1
def foA (f : Fo) : Nat → Nat := f.2.2.2.1
def foB (f : Fo) : Nat → Nat := f.2.2.2.2.1
def foT (f : Fo) : Nat → Nat := f.2.2.2.2.2.1
def foG (f : Fo) : Nat → Nat := f.2.2.2.2.2.2
def scN (s : Sc) : Nat → Nat := s.1
def scD (s : Sc) : Nat → Nat := s.2.1
def scF (s : Sc) : Nat → Bool := s.2.2.1
def scT (s : Sc) : Nat := s.2.2.2
/-- what is so of people and wrongs -/
def FoOk (f : Fo) : Prop := foP f ≤ 10 ∧ foW f ≤ 12 ∧ (∀ i, i < foP f → foH f i < 12 ∧ foA f i ≤ 12) ∧ (∀ i, i < foW f → foB f i < foP f ∧ foT f i < foP f ∧ 1 ≤ foG f i ∧ foG f i ≤ 9)
def ScOk (w : Nat) (s : Sc) : Prop := (∀ i, i < 12 → scN s i ≤ 999) ∧ (∀ i, i < w → scD s i ≤ 99) ∧ scT s ≤ 99
/-- the class's cells hold them -/
def FoX (f : Fo) (h : Hp) : Prop := h.1 1 0 = nI (foP f) ∧ h.1 1 3 = nI (foW f) ∧ (∀ i, i < foP f → h.1 2 i = nI (foH f i) ∧ h.1 3 i = nI (foA f i)) ∧ (∀ i, i < foW f → h.1 4 i = nI (foB f i) ∧ h.1 5 i = nI (foT f i) ∧ h.1 6 i = nI (foG f i))
/-- the reference's cells hold them -/
def FoM (f : Fo) (h : Hp) : Prop := h.1 53 1 = nI (foP f) ∧ h.1 53 4 = nI (foW f) ∧ (∀ i, i < foP f → h.1 55 i = nI (foH f i) ∧ h.1 56 i = nI (foA f i)) ∧ (∀ i, i < foW f → h.1 57 i = nI (foB f i) ∧ h.1 58 i = nI (foT f i) ∧ h.1 59 i = nI (foG f i))
def ScX (w : Nat) (s : Sc) (o : Nat) (h : Hp) : Prop := (∀ i, i < 12 → h.1 (pf o 0) i = nI (scN s i)) ∧ (∀ i, i < w → h.1 (pf o 1) i = nI (scD s i)) ∧ h.1 o 3 = nI (msk (scF s) w) ∧ h.1 o 4 = nI (scT s)
def ScM (w : Nat) (s : Sc) (h : Hp) : Prop := (∀ i, i < 12 → h.1 54 i = nI (scN s i)) ∧ (∀ i, i < w → h.1 60 i = nI (scD s i)) ∧ (∀ i, i < w → h.1 61 i = nI (bI (scF s i))) ∧ h.1 53 10 = nI (scT s)
/-- how a wrong counts in a house -/
abbrev Ph : Type := Nat → Nat → Nat → Nat → Nat → Nat → Nat
def seersN (f : Fo) (i hs : Nat) : Nat → Nat
  | 0 => 0
  | n + 1 => seersN f i hs n + (if foH f n = hs ∧ n ≠ foB f i ∧ n ≠ foT f i then 1 else 0)
def cnt (f : Fo) (φ : Ph) (s : Sc) (i hs : Nat) : Nat := φ (foG f i) (scT s - scD s i) (foA f (foT f i)) (seersN f i hs (foP f)) (scN s hs) (if foH f (foT f i) = hs then 1 else 0)
/-- a call: what it counts, and the scene behind it -/
def calN (f : Fo) (φ : Ph) (s : Sc) (i hs : Nat) : Nat := if scF s i then 0 else cnt f φ s i hs
def cal (f : Fo) (φ : Ph) (s : Sc) (i hs : Nat) : Sc := if calN f φ s i hs = 0 then s else (upN (scN s) hs (min 999 (scN s hs + cnt f φ s i hs)), scD s, upN (scF s) i true, scT s)
theorem FoX.kp {L : List Nat} {f : Fo} {h h' : Hp} (K : Kp L h h') (F : FoX f h) (hL : ([1, 2, 3, 4, 5, 6].all fun c => !L.contains c) = true) : FoX f h' := by
  have e : ∀ k, k ∈ [1, 2, 3, 4, 5, 6] → h'.1 k = h.1 k := fun k hk => K.i k (by simpa using List.all_eq_true.mp hL k hk)
  unfold FoX
  rw [e 1 (by decide), e 2 (by decide), e 3 (by decide), e 4 (by decide), e 5 (by decide), e 6 (by decide)]
  exact F
theorem FoM.kp {L : List Nat} {f : Fo} {h h' : Hp} (K : Kp L h h') (F : FoM f h) (e1 : h'.1 53 1 = h.1 53 1) (e4 : h'.1 53 4 = h.1 53 4) (hL : ([55, 56, 57, 58, 59].all fun c => !L.contains c) = true) : FoM f h' := by
  have e : ∀ k, k ∈ [55, 56, 57, 58, 59] → h'.1 k = h.1 k := fun k hk => K.i k (by simpa using List.all_eq_true.mp hL k hk)
  unfold FoM
  rw [e1, e4, e 55 (by decide), e 56 (by decide), e 57 (by decide), e 58 (by decide), e 59 (by decide)]
  exact F
theorem ScX.kp {L : List Nat} {w o : Nat} {s : Sc} {h h' : Hp} (K : Kp L h h') (F : ScX w s o h) (h1 : L.contains o = false) (h2 : L.contains (pf o 0) = false) (h3 : L.contains (pf o 1) = false) : ScX w s o h' := by
  unfold ScX
  rw [K.i o h1, K.i _ h2, K.i _ h3]
  exact F
theorem ScM.kp {L : List Nat} {w : Nat} {s : Sc} {h h' : Hp} (K : Kp L h h') (F : ScM w s h) (e1 : h'.1 53 10 = h.1 53 10) (hL : ([54, 60, 61].all fun c => !L.contains c) = true) : ScM w s h' := by
  have e : ∀ k, k ∈ [54, 60, 61] → h'.1 k = h.1 k := fun k hk => K.i k (by simpa using List.all_eq_true.mp hL k hk)
  unfold ScM
  rw [e1, e 54 (by decide), e 60 (by decide), e 61 (by decide)]
  exact F
/-- what a wrong counts without a law -/
def ph0 (a b _c _d _e g : Nat) : Nat := min 9 (1 + a / 3 + g - b / 20)
def PhOk (φ : Ph) : Prop := ∀ a b c d e g, φ a b c d e g ≤ 9
def RgOk (a b c d e g : Nat) : Prop := a ≤ 9 ∧ b ≤ 99 ∧ c ≤ 12 ∧ d ≤ 10 ∧ e ≤ 999 ∧ g ≤ 1
def LawX (φ : Ph) (h0 : Hp) : Prop := h0.2.2 7 2 ≠ h0.2.2 7 4 ∧ ∀ h, LR h → h.1 7 3 = h0.1 7 3 → h.2.2 7 2 = h0.2.2 7 2 → (h0.2.2 7 2 = 10 ∨ h.1 9 = h0.1 9) → (h0.2.2 7 2 = 9 ∨ h.1 10 = h0.1 10) → ∀ a b c d e g, RgOk a b c d e g → Ev ((f_X4_tell (nI a) (nI b) (nI c) (nI d) (nI e) (nI g) h).bind fun t => f_X4_worth t) fun r => r.1 = nI (φ a b c d e g)
def LawM (φ : Ph) (h0 : Hp) : Prop := (h0.1 53 13 = 0 ∧ ∀ a b c d e g, φ a b c d e g = ph0 a b c d e g) ∨ (h0.1 53 13 ≠ 0 ∧ ∀ h, h.1 53 14 = h0.1 53 14 → h.1 63 = h0.1 63 → h.1 64 = h0.1 64 → h.1 65 = h0.1 65 → h.1 66 = h0.1 66 → ∀ a b c d e g, RgOk a b c d e g → h.1 72 0 = nI a → h.1 72 1 = nI b → h.1 72 2 = nI c → h.1 72 3 = nI d → h.1 72 4 = nI e → Ev (j_X8_byLaw_89 (nI g) 5 h) fun r => mxI 0 (mnI 9 r.1) = nI (φ a b c d e g))
theorem LawX.kp {L : List Nat} {φ : Ph} {h h' : Hp} (K : Kp L h h') (F : LawX φ h) (hL : ([7, 9, 10].all fun c => !L.contains c) = true) : LawX φ h' := by
  have e : ∀ k, k ∈ [7, 9, 10] → L.contains k = false := fun k hk => by simpa using List.all_eq_true.mp hL k hk
  unfold LawX
  rw [K.i 7 (e 7 (by decide)), K.r 7 (e 7 (by decide)), K.i 9 (e 9 (by decide)), K.i 10 (e 10 (by decide))]
  exact F
theorem LawM.kp {L : List Nat} {φ : Ph} {h h' : Hp} (K : Kp L h h') (F : LawM φ h) (e1 : h'.1 53 13 = h.1 53 13) (e2 : h'.1 53 14 = h.1 53 14) (hL : ([63, 64, 65, 66].all fun c => !L.contains c) = true) : LawM φ h' := by
  have e : ∀ k, k ∈ [63, 64, 65, 66] → L.contains k = false := fun k hk => by simpa using List.all_eq_true.mp hL k hk
  unfold LawM
  rw [e1, e2, K.i 63 (e 63 (by decide)), K.i 64 (e 64 (by decide)), K.i 65 (e 65 (by decide)), K.i 66 (e 66 (by decide))]
  exact F
def OkO (o : Nat) : Prop := sh o = (0, 5) ∧ SI (pf o 0) = 12 ∧ SI (pf o 1) = 12 ∧ [1, 2, 3, 4, 5, 6, 7, 9, 10, 11, 12].contains o = false ∧ [1, 2, 3, 4, 5, 6, 7, 9, 10, 11, 12, o].contains (pf o 0) = false ∧ [1, 2, 3, 4, 5, 6, 7, 9, 10, 11, 12, o, pf o 0].contains (pf o 1) = false
theorem ok13 : OkO 13 := by unfold OkO; decide
theorem ok17 : OkO 17 := by unfold OkO; decide
theorem ok21 : OkO 21 := by unfold OkO; decide
