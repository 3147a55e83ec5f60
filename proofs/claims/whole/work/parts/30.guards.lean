theorem within_in {n lo hi : Nat} (h1 : lo ≤ n) (h2 : n ≤ hi) (hh : hi < 2 ^ 31) : f_X8_within (nI n) (nI lo) (nI hi) = some 1 := by
  unfold f_X8_within
  rw [if_neg (nI_nlt h1 (by omega)), if_neg (nI_nlt h2 hh)]
theorem within_out {n lo hi : Nat} (h : n < lo ∨ hi < n) (h0 : n < 2 ^ 31) (h1 : lo < 2 ^ 31) (hh : hi < 2 ^ 31) : f_X8_within (nI n) (nI lo) (nI hi) = some 0 := by
  unfold f_X8_within
  by_cases q : n < lo
  · rw [if_pos (nI_lt q h1)]
  · rw [if_neg (nI_nlt (by omega) h0), if_pos (nI_lt (by omega) h0)]
theorem within_neg {a x : Int32} (ha : a < 0) {lo : Nat} (h : lo < 2 ^ 31) : f_X8_within a (nI lo) x = some 0 := by
  unfold f_X8_within
  rw [if_pos (neg_lt ha h)]
theorem nI_gtm {n : Nat} (h : n < 2 ^ 31) : (-1 : Int32) < nI n := by
  rw [Int32.lt_iff_toInt_lt, nI_toInt h, show (-1 : Int32).toInt = -1 by decide]
  omega
theorem within_p1 {n p : Nat} (h : n < p) (hp : p < 2 ^ 31) : f_X8_within (nI n) 0 (nI p - 1) = some 1 := by
  rw [nl0, nl1, nI_sub (by omega)]
  exact within_in (Nat.zero_le _) (by omega) (by omega)
theorem within_p0 {n p : Nat} (h : p ≤ n) (hn : n < 2 ^ 31) : f_X8_within (nI n) 0 (nI p - 1) = some 0 := by
  rcases Nat.eq_zero_or_pos p with q | q
  · subst q
    unfold f_X8_within
    rw [if_neg (nI_pos hn), show nI 0 - 1 = (-1 : Int32) by decide, if_pos (nI_gtm hn)]
  · rw [nl0, nl1, nI_sub (by omega)]
    exact within_out (by omega) hn (by omega) (by omega)
theorem house_c (a : Int32) : (∃ n, n < 12 ∧ a = nI n ∧ f_X7_isHouse a = some 1 ∧ f_X8_isHouse a = some 1) ∨ (f_X7_isHouse a = some 0 ∧ f_X8_isHouse a = some 0) := by
  unfold f_X7_isHouse f_X8_isHouse
  rcases i32_split a with ⟨n, hn, rfl⟩ | ha
  · by_cases q : n < 12
    · left
      refine ⟨n, q, rfl, ?_, ?_⟩
      · rw [if_neg (nI_pos hn), if_neg (by rw [nl12, nI_leI (by decide) hn]; omega)]
      · rw [nl0, nl11, within_in (by omega) (by omega) (by decide)]; rfl
    · right
      refine ⟨?_, ?_⟩
      · rw [if_neg (nI_pos hn), if_pos (by rw [nl12, nI_leI (by decide) hn]; omega)]
      · rw [nl0, nl11, within_out (by omega) hn (by decide) (by decide)]; rfl
  · right
    refine ⟨by rw [if_pos ha], ?_⟩
    rw [nl0, within_neg ha (by decide)]; rfl
theorem one_c {f : Fo} {h : Hp} (ok : FoOk f) (F : FoX f h) (G : FoM f h) (a : Int32) : (∃ n, n < foP f ∧ a = nI n ∧ f_X3_isOne a h = some 1 ∧ f_X8_isOne a h = some 1) ∨ (f_X3_isOne a h = some 0 ∧ f_X8_isOne a h = some 0) := by
  have hp := ok.1
  unfold f_X3_isOne f_X8_isOne
  rw [F.1, G.1]
  rcases i32_split a with ⟨n, hn, rfl⟩ | ha
  · by_cases q : n < foP f
    · left
      refine ⟨n, q, rfl, ?_, ?_⟩
      · rw [if_neg (nI_pos hn), if_neg (by rw [nI_leI (by omega) hn]; omega)]
      · rw [within_p1 q (by omega)]; rfl
    · right
      refine ⟨?_, ?_⟩
      · rw [if_neg (nI_pos hn), if_pos (by rw [nI_leI (by omega) hn]; omega)]
      · rw [within_p0 (by omega) hn]; rfl
  · right
    refine ⟨by rw [if_pos ha], ?_⟩
    rw [nl0, within_neg ha (by decide)]; rfl
theorem wrong_c {f : Fo} {h : Hp} (ok : FoOk f) (F : FoX f h) (G : FoM f h) (a : Int32) : (∃ n, n < foW f ∧ a = nI n ∧ f_X3_isWrong a h = some 1 ∧ f_X8_isWrong a h = some 1) ∨ (f_X3_isWrong a h = some 0 ∧ f_X8_isWrong a h = some 0) := by
  have hp := ok.2.1
  unfold f_X3_isWrong f_X8_isWrong
  rw [F.2.1, G.2.1]
  rcases i32_split a with ⟨n, hn, rfl⟩ | ha
  · by_cases q : n < foW f
    · left
      refine ⟨n, q, rfl, ?_, ?_⟩
      · rw [if_neg (nI_pos hn), if_neg (by rw [nI_leI (by omega) hn]; omega)]
      · rw [within_p1 q (by omega)]; rfl
    · right
      refine ⟨?_, ?_⟩
      · rw [if_neg (nI_pos hn), if_pos (by rw [nI_leI (by omega) hn]; omega)]
      · rw [within_p0 (by omega) hn]; rfl
  · right
    refine ⟨by rw [if_pos ha], ?_⟩
    rw [nl0, within_neg ha (by decide)]; rfl
theorem shelf_c (a : Int32) : (∃ n, n < 6 ∧ a = nI n ∧ f_X6_isShelf a = some 1 ∧ f_X8_isShelf a = some 1) ∨ (f_X6_isShelf a = some 0 ∧ f_X8_isShelf a = some 0) := by
  unfold f_X6_isShelf f_X8_isShelf
  rcases i32_split a with ⟨n, hn, rfl⟩ | ha
  · by_cases q : n < 6
    · left
      refine ⟨n, q, rfl, ?_, ?_⟩
      · rw [if_neg (nI_pos hn), if_neg (by rw [nl6, nI_leI (by decide) hn]; omega)]
      · rw [nl0, nl5, within_in (by omega) (by omega) (by decide)]; rfl
    · right
      refine ⟨?_, ?_⟩
      · rw [if_neg (nI_pos hn), if_pos (by rw [nl6, nI_leI (by decide) hn]; omega)]
      · rw [nl0, nl5, within_out (by omega) hn (by decide) (by decide)]; rfl
  · right
    refine ⟨by rw [if_pos ha], ?_⟩
    rw [nl0, within_neg ha (by decide)]; rfl
theorem sort_c (a : Int32) : (∃ n, n < 5 ∧ a = nI n ∧ f_X6_isSort a = some 1 ∧ f_X8_within a 0 4 = some 1) ∨ (f_X6_isSort a = some 0 ∧ f_X8_within a 0 4 = some 0) := by
  unfold f_X6_isSort
  rcases i32_split a with ⟨n, hn, rfl⟩ | ha
  · by_cases q : n < 5
    · left
      refine ⟨n, q, rfl, ?_, ?_⟩
      · rw [if_neg (nI_pos hn), if_neg (by rw [nl5, nI_leI (by decide) hn]; omega)]
      · rw [nl0, nl4, within_in (by omega) (by omega) (by decide)]
    · right
      refine ⟨?_, ?_⟩
      · rw [if_neg (nI_pos hn), if_pos (by rw [nl5, nI_leI (by decide) hn]; omega)]
      · rw [nl0, nl4, within_out (by omega) hn (by decide) (by decide)]; rfl
  · right
    refine ⟨by rw [if_pos ha], ?_⟩
    rw [nl0, within_neg ha (by decide)]; rfl
theorem kind_c (a : Int32) : (∃ n, n < 8 ∧ a = nI n ∧ f_X1_isKind a = some 1 ∧ f_X8_within a 0 7 = some 1) ∨ (f_X1_isKind a = some 0 ∧ f_X8_within a 0 7 = some 0) := by
  unfold f_X1_isKind
  rcases i32_split a with ⟨n, hn, rfl⟩ | ha
  · by_cases q : n < 8
    · left
      refine ⟨n, q, rfl, ?_, ?_⟩
      · rw [if_neg (nI_pos hn), if_neg (by rw [nl8, nI_leI (by decide) hn]; omega)]
      · rw [nl0, nl7, within_in (by omega) (by omega) (by decide)]
    · right
      refine ⟨?_, ?_⟩
      · rw [if_neg (nI_pos hn), if_pos (by rw [nl8, nI_leI (by decide) hn]; omega)]
      · rw [nl0, nl7, within_out (by omega) hn (by decide) (by decide)]; rfl
  · right
    refine ⟨by rw [if_pos ha], ?_⟩
    rw [nl0, within_neg ha (by decide)]; rfl
/-- class, then reference: the same answer, and they hold the same behind -/
def Ag (o : Option (Int32 × Hp)) (k : Hp → Option (Int32 × Hp)) : Prop := Ev o fun r => Ev (k r.2) fun t => r.1 = t.1 ∧ Rel t.2
theorem ag_same {v : Int32} {h : Hp} {o : Option (Int32 × Hp)} {k : Hp → Option (Int32 × Hp)} (R : Rel h) (h1 : o = some (v, h)) (h2 : k h = some (v, h)) : Ag o k := ⟨_, h1, _, h2, rfl, R⟩
theorem LR.st {h : Hp} {a j : Nat} {v : Int32} (q : LR h) : LR (stI h a j v) := q
theorem FitN.mono {f f' : Fo} {n w : Nat} (hp : foP f ≤ foP f') (hw : foW f ≤ foW f') (h : FitN f n w) : FitN f' n w := ⟨h.1, fun q => Nat.lt_of_lt_of_le (h.2.1 q) hp, fun q => Nat.lt_of_lt_of_le (h.2.2.1 q) hw, h.2.2.2⟩
theorem ChOk.mono {f f' : Fo} {a b c d : Int32} (hp : foP f ≤ foP f') (hw : foW f ≤ foW f') (h : ChOk f a b c d) : ChOk f' a b c d := by
  obtain ⟨n, w, x, y, h1, h2, h3, h4, h5, h6, h7⟩ := h
  exact ⟨n, w, x, y, h1, h2, h3, h4, h5, h6.mono hp hw, h7⟩
theorem Chg.mono {f f' : Fo} {h : Hp} (hp : foP f ≤ foP f') (hw : foW f ≤ foW f') (c : Chg f h) : Chg f' h := by
  obtain ⟨n, d, h1, h2, h3, h4, h5, h6, h7⟩ := c
  refine ⟨n, d, h1, h2, h3, h4, h5, h6, fun i hi => ?_⟩
  obtain ⟨a1, a2, a3, a4, a5⟩ := h7 i hi
  exact ⟨a1, a2, a3, a4, a5.mono hp hw⟩
/-- people, wrongs, the scene and the changes have moved -/
def FOL : List Nat := [1, 2, 3, 4, 5, 6, 13, 14, 15, 25, 26, 27, 28, 29, 53, 54, 55, 56, 57, 58, 59, 60, 61, 76]
theorem RelA.fo {f f' : Fo} {s s' : Sc} {φ : Ph} {b : Nat} {h h' : Hp} (R : RelA f s φ b h) (K : Kp FOL h h') (e : ∀ j, j ≠ 1 → j ≠ 4 → j ≠ 10 → j ≠ 34 → j ≠ 35 → h'.1 53 j = h.1 53 j) (ok : FoOk f') (FX : FoX f' h') (FM : FoM f' h') (so : ScOk (foW f') s') (SX : ScX (foW f') s' 13 h') (SM : ScM (foW f') s' h') (hw : foW f ≤ foW f') (hc : Chg f' h') : RelA f' s' φ b h' := by
  obtain ⟨⟨r1, r2, r3, r4⟩, ⟨r5, r6, r7, r8⟩, ⟨r9, r10⟩, r11, r12, r13, r14, r15, r16⟩ := R
  refine ⟨⟨K.1, r2, ok, so⟩, ⟨FX, FM, SX, SM⟩, ⟨r9.kp K (by decide), r10.kp K (e 13 (by decide) (by decide) (by decide) (by decide) (by decide)) (e 14 (by decide) (by decide) (by decide) (by decide) (by decide)) (by decide)⟩, ?_, ?_, ?_, hc, ?_, ?_⟩
  · intro i hi
    rw [K.i 16 (by decide), K.i 73 (by decide)]
    exact r11 i hi
  · unfold Tape; rw [K.i 7 (by decide), K.i 8 (by decide), K.i 62 (by decide), e 11 (by decide) (by decide) (by decide) (by decide) (by decide)]; exact r12
  · have e30 := e 30 (by decide) (by decide) (by decide) (by decide) (by decide)
    have e31 := e 31 (by decide) (by decide) (by decide) (by decide) (by decide)
    have r := Img.eq r13 (K.i 0 (by decide)) (K.i 21 (by decide)) (K.i 22 (by decide)) (K.i 23 (by decide)) (K.i 74 (by decide)) (K.i 24 (by decide)) (K.i 75 (by decide)) e30 e31 (K.i 17 (by decide))
    refine ⟨r.1, ?_⟩
    rcases r.2 with q | ⟨q1, q2, v, s0, q3, q4⟩
    · exact Or.inl q
    · exact Or.inr ⟨q1, q2, v, s0, Nat.le_trans q3 hw, q4⟩
  · intro k hk
    have h1 := r15 k hk
    unfold ShAt at h1 ⊢
    rw [K.i 39 (by decide), K.i 79 (by decide), K.i 40 (by decide), K.l 81 (by decide), K.l (32 + k) (by
      match k, hk with
      | 0, _ => decide
      | 1, _ => decide
      | 2, _ => decide
      | 3, _ => decide
      | 4, _ => decide
      | 5, _ => decide), K.i 38 (by decide), K.i 80 (by decide)]
    exact h1
  · unfold Dor; rw [K.i 41 (by decide), K.i 42 (by decide), K.i 77 (by decide), K.i 43 (by decide), K.i 78 (by decide), e 37 (by decide) (by decide) (by decide) (by decide) (by decide), e 39 (by decide) (by decide) (by decide) (by decide) (by decide)]; exact r16
theorem upN_at {α : Type} {f : Nat → α} {k i : Nat} {v : α} : upN f k v i = if i = k then v else f i := rfl
theorem Kp.st {L : List Nat} {h g : Hp} {a j : Nat} {v : Int32} (K : Kp L h g) (ha : L.contains a = true) : Kp L h (stI g a j v) := K.trans (Kp.sti K.1 ha)
theorem Kp.up {L : List Nat} {h g : Hp} {a : Nat} {f : Nat → Int32} (K : Kp L h g) (ha : L.contains a = true) : Kp L h (upI g a f) := K.trans (Kp.upi K.1 ha)
theorem Kp.sl {L : List Nat} {h g : Hp} {a j : Nat} {v : Int64} (K : Kp L h g) (ha : L.contains a = true) : Kp L h (stL g a j v) := K.trans (Kp.stl K.1 ha)
theorem ag_m1 {h : Hp} {v : Int32} (R : Rel h) {k : Hp → Option (Int32 × Hp)} (hk : k h = some (v, h)) : Ag (some (v, h)) k := ⟨_, rfl, _, hk, rfl, R⟩
/-- two loops over the same numbers that go alike -/
theorem ev_two {σ α : Type} {b c : σ → Option (σ ⊕ α)} {P : Nat → σ → Prop} {N : Nat} (hb : ∀ k s, k ≤ N → P k s → Ev (b s) (fun o => c s = some o ∧ Sum.elim (fun t => k < N ∧ P (k + 1) t) (fun _ => True) o)) {n k : Nat} {s : σ} (h0 : P k s) (hk : k ≤ N) (hn : N < n + k) : ∃ r, iter b n s = some r ∧ iter c n s = some r := by
  induction n generalizing k s with
  | zero => exact absurd hn (by omega)
  | succ n ih =>
    obtain ⟨o, h1, h2, h3⟩ := hb k s hk h0
    show ∃ r, (b s).bind (Sum.elim (fun t => iter b n t) some) = some r ∧ (c s).bind (Sum.elim (fun t => iter c n t) some) = some r
    rw [h1, h2]
    cases o with
    | inl t => exact ih h3.2 h3.1 (by omega)
    | inr r => exact ⟨r, rfl, rfl⟩
