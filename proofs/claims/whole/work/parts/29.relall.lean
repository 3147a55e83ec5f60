/-! what holds of the heap between two calls: class and reference hold the same -/
def Led (h : Hp) : Prop := ∀ i, i < 6 → h.1 16 i = h.1 73 i
def Tape (h : Hp) : Prop := ∃ n, n ≤ 120 ∧ h.1 7 0 = nI n ∧ h.1 53 11 = nI n ∧ ∀ i, i < n → h.1 8 i = h.1 62 i ∧ ∃ b, b ≤ 255 ∧ h.1 8 i = nI b
/-- forgiven, of the scenes that the class thinks in and keeps: no high bit -/
def Thk (o : Nat) (h : Hp) : Prop := ∃ m, m < 4096 ∧ h.1 o 3 = nI m
def Img0 (w : Nat) (h : Hp) : Prop := (h.1 0 5 = 0 ∧ h.1 53 30 = 0) ∨ (h.1 0 5 = 1 ∧ h.1 53 30 = 1 ∧ ∃ v s, v ≤ w ∧ ScOk v s ∧ ScX v s 21 h ∧ h.1 0 6 = nI v ∧ h.1 53 31 = nI v ∧ (∀ i, i < 12 → h.1 74 i = nI (scN s i)) ∧ (∀ i, i < v → h.1 74 (12 + i) = nI (bI (scF s i)) ∧ h.1 74 (24 + i) = nI (scD s i)) ∧ h.1 74 36 = nI (scT s) ∧ ∀ i, i < 6 → h.1 24 i = h.1 75 i)
def Img (w : Nat) (h : Hp) : Prop := (Thk 17 h ∧ Thk 21 h) ∧ Img0 w h
/-- a change that may be done and undone -/
def FitV (what v : Nat) : Prop := (what = 0 → v ≤ 999) ∧ (what = 1 → v ≤ 11) ∧ (what = 2 → v ≤ 12) ∧ (what = 3 → 1 ≤ v ∧ v ≤ 9) ∧ (what = 4 → v ≤ 99) ∧ (what = 5 → v ≤ 1) ∧ (what = 6 → v ≤ 99)
def FitN (f : Fo) (n what : Nat) : Prop := (what = 0 → n < 12) ∧ (what = 1 ∨ what = 2 → n < foP f) ∧ (what = 3 ∨ what = 4 ∨ what = 5 → n < foW f) ∧ (what = 6 → n = 0)
def ChOk (f : Fo) (a b c d : Int32) : Prop := ∃ n what x y, a = nI n ∧ b = nI what ∧ c = nI x ∧ d = nI y ∧ what ≤ 6 ∧ FitN f n what ∧ FitV what x ∧ FitV what y
def Chg (f : Fo) (h : Hp) : Prop := ∃ n d, n ≤ 40 ∧ d ≤ n ∧ h.1 25 4 = nI n ∧ h.1 53 34 = nI n ∧ h.1 25 5 = nI d ∧ h.1 53 35 = nI d ∧ ∀ i, i < n → h.1 26 i = h.1 76 (4 * i) ∧ h.1 27 i = h.1 76 (4 * i + 1) ∧ h.1 28 i = h.1 76 (4 * i + 2) ∧ h.1 29 i = h.1 76 (4 * i + 3) ∧ ChOk f (h.1 26 i) (h.1 27 i) (h.1 28 i) (h.1 29 i)
/-- what lies on a shelf: nothing, a door, a row -/
def ShAt (b : Nat) (h : Hp) (k : Nat) : Prop := (h.1 39 k = -1 ∧ h.1 79 k = -1) ∨ (h.1 39 k = -2 ∧ ∃ d, d < b ∧ h.1 40 k = nI d ∧ h.1 79 k = nI (10 + d)) ∨ (∃ t, t < 5 ∧ h.1 39 k = nI t ∧ h.1 79 k = nI t ∧ (∀ j, j < 60 → h.2.1 (32 + k) j = h.2.1 81 (60 * k + j)) ∧ (t = 1 → ∀ j, j < 60 → ∃ v : Int32, h.2.1 (32 + k) j = v.toInt64))
def Shv (b : Nat) (h : Hp) : Prop := ∀ k, k < 6 → ShAt b h k ∧ ∃ n, n ≤ 60 ∧ h.1 38 k = nI n ∧ h.1 80 k = nI n
def Dor (b : Nat) (h : Hp) : Prop := b ≤ 50 ∧ h.1 41 0 = nI b ∧ h.1 53 37 = nI b ∧ (∀ i, i < b → ∃ k, k < 8 ∧ h.1 42 i = nI k ∧ h.1 77 i = nI k) ∧ ∃ t, t ≤ 1000 ∧ h.1 41 3 = nI t ∧ h.1 53 39 = nI t ∧ ∀ i, i < t → i < 24 → h.1 43 i = h.1 78 i
def RelA (f : Fo) (s : Sc) (φ : Ph) (b : Nat) (h : Hp) : Prop := (LR h ∧ PhOk φ ∧ FoOk f ∧ ScOk (foW f) s) ∧ (FoX f h ∧ FoM f h ∧ ScX (foW f) s 13 h ∧ ScM (foW f) s h) ∧ (LawX φ h ∧ LawM φ h) ∧ Led h ∧ Tape h ∧ Img (foW f) h ∧ Chg f h ∧ Shv b h ∧ Dor b h
def Rel (h : Hp) : Prop := ∃ f s φ b, RelA f s φ b h
/-- the scratch cells, both scenes, both led -/
def BIG : List Nat := [11, 12, 13, 14, 15, 16, 17, 18, 19, 20, 44, 45, 46, 47, 48, 49, 50, 51, 52, 53, 54, 60, 61, 71, 72, 73, 82, 83, 84, 85]
theorem RelA.up {f : Fo} {s s' : Sc} {φ : Ph} {b : Nat} {h h' : Hp} (R : RelA f s φ b h) (K : Kp BIG h h') (e : ∀ j, j ≠ 10 → h'.1 53 j = h.1 53 j) (so : ScOk (foW f) s') (SX : ScX (foW f) s' 13 h') (SM : ScM (foW f) s' h') (hl : Led h') (ht : Thk 17 h') : RelA f s' φ b h' := by
  obtain ⟨⟨r1, r2, r3, r4⟩, ⟨r5, r6, r7, r8⟩, ⟨r9, r10⟩, r11, r12, r13, r14, r15, r16⟩ := R
  refine ⟨⟨K.1, r2, r3, so⟩, ⟨r5.kp K (by decide), r6.kp K (e 1 (by decide)) (e 4 (by decide)) (by decide), SX, SM⟩, ⟨r9.kp K (by decide), r10.kp K (e 13 (by decide)) (e 14 (by decide)) (by decide)⟩, hl, ?_, ?_, ?_, ?_, ?_⟩
  · unfold Tape; rw [K.i 7 (by decide), K.i 8 (by decide), K.i 62 (by decide), e 11 (by decide)]; exact r12
  · refine ⟨⟨ht, by unfold Thk; rw [K.i 21 (by decide)]; exact r13.1.2⟩, ?_⟩
    replace r13 := r13.2
    unfold Img0 ScX; rw [K.i 0 (by decide), K.i 21 (by decide), K.i (pf 21 0) (by decide), K.i (pf 21 1) (by decide), K.i 74 (by decide), K.i 24 (by decide), K.i 75 (by decide), e 30 (by decide), e 31 (by decide)]; exact r13
  · unfold Chg; rw [K.i 25 (by decide), K.i 26 (by decide), K.i 27 (by decide), K.i 28 (by decide), K.i 29 (by decide), K.i 76 (by decide), e 34 (by decide), e 35 (by decide)]; exact r14
  · intro k hk
    have h1 := r15 k hk
    unfold ShAt at h1 ⊢
    rw [K.i 39 (by decide), K.i 79 (by decide), K.i 40 (by decide), K.l 81 (by decide), K.l (32 + k) (by
      match k, hk with
      | 0, _ => decide
      | 1, _ => decide
      | 2, _ => decide
      | 3, _ => decide
      | 4, _ => decide
      | 5, _ => decide), K.i 38 (by decide), K.i 80 (by decide)]
    exact h1
  · unfold Dor; rw [K.i 41 (by decide), K.i 42 (by decide), K.i 77 (by decide), K.i 43 (by decide), K.i 78 (by decide), e 37 (by decide), e 39 (by decide)]; exact r16
/-- only scratch has changed -/
def SCR : List Nat := [11, 12, 17, 18, 19, 20, 44, 45, 46, 47, 48, 49, 50, 51, 52, 71, 72, 82, 83, 84, 85]
theorem RelA.scr {f : Fo} {s : Sc} {φ : Ph} {b : Nat} {h h' : Hp} (R : RelA f s φ b h) (K : Kp SCR h h') (ht : Thk 17 h') : RelA f s φ b h' :=
  R.up (K.mono (by decide)) (fun j _ => by rw [K.i 53 (by decide)]) R.1.2.2.2 (R.2.1.2.2.1.kp K (by decide) (by decide) (by decide)) (R.2.1.2.2.2.kp K (by rw [K.i 53 (by decide)]) (by decide)) (by
    intro i hi
    rw [K.i 16 (by decide), K.i 73 (by decide)]
    exact R.2.2.2.1 i hi) ht
theorem RelA.thk {f : Fo} {s : Sc} {φ : Ph} {b : Nat} {h : Hp} (R : RelA f s φ b h) : Thk 17 h := by
  obtain ⟨_, _, _, _, _, r13, _⟩ := R
  exact r13.1.1
theorem Thk.eq {o : Nat} {h h' : Hp} (R : Thk o h) (e : h'.1 o = h.1 o) : Thk o h' := by
  unfold Thk at *
  rw [e]
  exact R
theorem Led.eq  {h h' : Hp} (R : Led h) (e0 : h'.1 16 = h.1 16) (e1 : h'.1 73 = h.1 73) : Led h' := by
  unfold Led at *
  rw [e0, e1]
  exact R
theorem Tape.eq  {h h' : Hp} (R : Tape h) (e0 : h'.1 7 0 = h.1 7 0) (e1 : h'.1 53 11 = h.1 53 11) (e2 : h'.1 8 = h.1 8) (e3 : h'.1 62 = h.1 62) : Tape h' := by
  unfold Tape at *
  rw [e0, e1, e2, e3]
  exact R
theorem Img.eq {w : Nat} {h h' : Hp} (R : Img w h) (e0 : h'.1 0 = h.1 0) (e1 : h'.1 21 = h.1 21) (e2 : h'.1 22 = h.1 22) (e3 : h'.1 23 = h.1 23) (e4 : h'.1 74 = h.1 74) (e5 : h'.1 24 = h.1 24) (e6 : h'.1 75 = h.1 75) (e7 : h'.1 53 30 = h.1 53 30) (e8 : h'.1 53 31 = h.1 53 31) (e9 : h'.1 17 = h.1 17) : Img w h' := by
  unfold Img Img0 ScX Thk at *
  rw [show pf 21 0 = 22 from rfl, show pf 21 1 = 23 from rfl] at *
  rw [e0, e1, e2, e3, e4, e5, e6, e7, e8, e9]
  exact R
theorem Chg.eq {f : Fo} {h h' : Hp} (R : Chg f h) (e0 : h'.1 25 = h.1 25) (e1 : h'.1 26 = h.1 26) (e2 : h'.1 27 = h.1 27) (e3 : h'.1 28 = h.1 28) (e4 : h'.1 29 = h.1 29) (e5 : h'.1 76 = h.1 76) (e6 : h'.1 53 34 = h.1 53 34) (e7 : h'.1 53 35 = h.1 53 35) : Chg f h' := by
  unfold Chg at *
  rw [e0, e1, e2, e3, e4, e5, e6, e7]
  exact R
theorem Dor.eq {b : Nat} {h h' : Hp} (R : Dor b h) (e0 : h'.1 41 = h.1 41) (e1 : h'.1 42 = h.1 42) (e2 : h'.1 77 = h.1 77) (e3 : h'.1 43 = h.1 43) (e4 : h'.1 78 = h.1 78) (e5 : h'.1 53 37 = h.1 53 37) (e6 : h'.1 53 39 = h.1 53 39) : Dor b h' := by
  unfold Dor at *
  rw [e0, e1, e2, e3, e4, e5, e6]
  exact R
theorem FoX.eq {f : Fo} {h h' : Hp} (R : FoX f h) (e0 : h'.1 1 = h.1 1) (e1 : h'.1 2 = h.1 2) (e2 : h'.1 3 = h.1 3) (e3 : h'.1 4 = h.1 4) (e4 : h'.1 5 = h.1 5) (e5 : h'.1 6 = h.1 6) : FoX f h' := by
  unfold FoX at *
  rw [e0, e1, e2, e3, e4, e5]
  exact R
theorem FoM.eq {f : Fo} {h h' : Hp} (R : FoM f h) (e0 : h'.1 53 1 = h.1 53 1) (e1 : h'.1 53 4 = h.1 53 4) (e2 : h'.1 55 = h.1 55) (e3 : h'.1 56 = h.1 56) (e4 : h'.1 57 = h.1 57) (e5 : h'.1 58 = h.1 58) (e6 : h'.1 59 = h.1 59) : FoM f h' := by
  unfold FoM at *
  rw [e0, e1, e2, e3, e4, e5, e6]
  exact R
theorem ScM.eq {w : Nat} {s : Sc} {h h' : Hp} (R : ScM w s h) (e0 : h'.1 54 = h.1 54) (e1 : h'.1 60 = h.1 60) (e2 : h'.1 61 = h.1 61) (e3 : h'.1 53 10 = h.1 53 10) : ScM w s h' := by
  unfold ScM at *
  rw [e0, e1, e2, e3]
  exact R
theorem ScX.eq {w : Nat} {s : Sc} {o : Nat} {h h' : Hp} (R : ScX w s o h) (e1 : h'.1 o = h.1 o) (e2 : h'.1 (pf o 0) = h.1 (pf o 0)) (e3 : h'.1 (pf o 1) = h.1 (pf o 1)) : ScX w s o h' := by
  unfold ScX at *
  rw [e1, e2, e3]
  exact R
theorem LawX.eq {φ : Ph} {h h' : Hp} (R : LawX φ h) (e1 : h'.1 7 3 = h.1 7 3) (e2 : h'.2.2 7 = h.2.2 7) (e3 : h'.1 9 = h.1 9) (e4 : h'.1 10 = h.1 10) : LawX φ h' := by
  unfold LawX at *
  rw [e1, e2, e3, e4]
  exact R
theorem LawM.eq {φ : Ph} {h h' : Hp} (R : LawM φ h) (e1 : h'.1 53 13 = h.1 53 13) (e2 : h'.1 53 14 = h.1 53 14) (e3 : h'.1 63 = h.1 63) (e4 : h'.1 64 = h.1 64) (e5 : h'.1 65 = h.1 65) (e6 : h'.1 66 = h.1 66) : LawM φ h' := by
  unfold LawM at *
  rw [e1, e2, e3, e4, e5, e6]
  exact R
theorem Shv.eq {b : Nat} {h h' : Hp} (R : Shv b h) (e1 : h'.1 39 = h.1 39) (e2 : h'.1 79 = h.1 79) (e3 : h'.1 40 = h.1 40) (e4 : h'.1 38 = h.1 38) (e5 : h'.1 80 = h.1 80) (e6 : h'.2.1 = h.2.1) : Shv b h' := by
  unfold Shv ShAt at *
  rw [e1, e2, e3, e4, e5, e6]
  exact R
theorem ScX.n13 {w : Nat} {s : Sc} {h : Hp} (S : ScX w s 13 h) {i : Nat} (hi : i < 12) : h.1 14 i = nI (scN s i) := S.1 i hi
theorem ScX.d13 {w : Nat} {s : Sc} {h : Hp} (S : ScX w s 13 h) {i : Nat} (hi : i < w) : h.1 15 i = nI (scD s i) := S.2.1 i hi
theorem ScX.n17 {w : Nat} {s : Sc} {h : Hp} (S : ScX w s 17 h) {i : Nat} (hi : i < 12) : h.1 18 i = nI (scN s i) := S.1 i hi
theorem ScX.d17 {w : Nat} {s : Sc} {h : Hp} (S : ScX w s 17 h) {i : Nat} (hi : i < w) : h.1 19 i = nI (scD s i) := S.2.1 i hi
