/-! wrongs from a row, on both sides -/
theorem part_n {k a c N : Nat} {g : Hp} (hk : k < 6) (ha : a < 2 ^ 31) (hc : c < 2 ^ 31) (hN : N ≤ 60) (w3 : g.1 38 k = nI N) : f_X6_hasPart (nI k) (nI a) (nI c) g = if a + c ≤ N then some 1 else some 0 := by
  unfold f_X6_hasPart
  rw [rd_38 hk, w3]
  simp only [Option.bind_some]
  rw [if_neg (nI_pos ha), if_neg (nI_pos hc)]
  by_cases q : c ≤ N
  · rw [if_neg (nI_nlt q (by omega)), nI_sub q]
    by_cases q2 : a + c ≤ N
    · rw [if_neg (nI_nlt (by omega) (by omega)), if_pos q2]
    · rw [if_pos (nI_lt (by omega) ha), if_neg q2]
  · rw [if_pos (nI_lt (by omega) hc), if_neg (by omega)]
theorem val_n {k a : Nat} {g : Hp} (hk : k < 6) (ha : a < 60) : f_X6_valueAt (nI k) (nI a) g = some (g.2.1 (32 + k) a) := by
  unfold f_X6_valueAt
  rw [row_at hk]
  simp only [Option.bind_some]
  rw [rdL_n (by rw [row_sz hk]; exact ha) (by rw [row_sz hk]; decide)]
  rfl
theorem told_n {k a : Nat} {g : Hp} (hk : k < 6) (ha : a < 60) : f_X8_toldAt (nI k) (nI a) g = some (g.2.1 81 (60 * k + a)).toInt32 := by
  unfold f_X8_toldAt
  rw [nl60, nI_mul, nI_add, rd_81 (by omega)]
  rfl
theorem l64_c {p k N : Nat} (hp : p < 2 ^ 31) (hk : k < 100) (hN : N < 2 ^ 31) (hs : p + 3 * k < 2 ^ 31) : ¬ (lg_cmp ((nI p).toInt64 + (3 * (nI k).toInt64)) 0) < 0 ∧ (0 < (lg_cmp (((nI p).toInt64 + (3 * (nI k).toInt64)) + 3) (nI N).toInt64) ↔ N < p + 3 * k + 3) ∧ ((nI p).toInt64 + (3 * (nI k).toInt64)).toInt32 = nI (p + 3 * k) := by
  have e3 : (3 * (nI k).toInt64).toInt = 3 * (k : Int) := by
    rw [Int64.toInt_mul, Int32.toInt_toInt64, nI_toInt (by omega), show (3 : Int64).toInt = 3 by decide]
    rw [Int.bmod_eq_of_le] <;> omega
  have e : ((nI p).toInt64 + (3 * (nI k).toInt64)).toInt = (p : Int) + 3 * k := by
    rw [Int64.toInt_add, Int32.toInt_toInt64, nI_toInt hp, e3]
    rw [Int.bmod_eq_of_le] <;> omega
  have e4 : (((nI p).toInt64 + (3 * (nI k).toInt64)) + 3).toInt = (p : Int) + 3 * k + 3 := by
    rw [Int64.toInt_add, e, show (3 : Int64).toInt = 3 by decide]
    rw [Int.bmod_eq_of_le] <;> omega
  have e2 : ((nI N).toInt64).toInt = (N : Int) := by rw [Int32.toInt_toInt64, nI_toInt hN]
  refine ⟨?_, ?_, ?_⟩
  · unfold lg_cmp
    split
    · decide
    · split
      · decide
      · rename_i q1 q2
        exfalso
        have h1 : ¬ (0 : Int64).toInt < ((nI p).toInt64 + (3 * (nI k).toInt64)).toInt := fun x => q1 (Int64.lt_iff_toInt_lt.mpr x)
        have h2 : ((nI p).toInt64 + (3 * (nI k).toInt64)).toInt ≠ (0 : Int64).toInt := fun x => q2 (Int64.toInt_inj.mp x)
        rw [e, show (0 : Int64).toInt = 0 by decide] at h1 h2
        omega
  · unfold lg_cmp
    by_cases q : N < p + 3 * k + 3
    · rw [if_pos (show (nI N).toInt64 < ((nI p).toInt64 + (3 * (nI k).toInt64)) + 3 by rw [Int64.lt_iff_toInt_lt, e4, e2]; omega)]
      exact ⟨fun _ => q, fun _ => by decide⟩
    · rw [if_neg (show ¬ (nI N).toInt64 < ((nI p).toInt64 + (3 * (nI k).toInt64)) + 3 by rw [Int64.lt_iff_toInt_lt, e4, e2]; omega)]
      split
      · exact ⟨fun x => absurd x (by decide), fun x => absurd x q⟩
      · exact ⟨fun x => absurd x (by decide), fun x => absurd x q⟩
  · apply Int32.toInt_inj.mp
    rw [Int64.toInt_toInt32, e, nI_toInt hs]
    rw [Int.bmod_eq_of_le] <;> omega
/-- people, wrongs and the scene behind k wrongs of the row -/
def wrS (r : Nat → Int32) (p : Nat) (f : Fo) (s : Sc) : Nat → Fo × Sc
  | 0 => (f, s)
  | k + 1 => (addF (wrS r p f s k).1 (r (p + 3 * k)).toNatClampNeg (r (p + 3 * k + 1)).toNatClampNeg (r (p + 3 * k + 2)).toNatClampNeg, addS (foW (wrS r p f s k).1) (wrS r p f s k).2)
theorem wrS_W (r : Nat → Int32) (p : Nat) (f : Fo) (s : Sc) : ∀ k, foW (wrS r p f s k).1 = foW f + k
  | 0 => rfl
  | k + 1 => by
    show foW (wrS r p f s k).1 + 1 = _
    rw [wrS_W r p f s k]; omega
theorem wrS_P (r : Nat → Int32) (p : Nat) (f : Fo) (s : Sc) : ∀ k, foP (wrS r p f s k).1 = foP f
  | 0 => rfl
  | k + 1 => wrS_P r p f s k
def wrGo (r : Nat → Int32) (p N : Nat) (f : Fo) (s : Sc) (k : Nat) : Prop := p + 3 * k + 3 ≤ N ∧ foW f + k < 12 ∧ ∃ i j g, i < foP f ∧ j < foP f ∧ 1 ≤ g ∧ g ≤ 9 ∧ r (p + 3 * k) = nI i ∧ r (p + 3 * k + 1) = nI j ∧ r (p + 3 * k + 2) = nI g ∧ ∀ h', FoM (wrS r p f s k).1 h' → f_X8_isSuch (nI i) (nI j) (nI g) h' = some 1
def wrNo (r : Nat → Int32) (p N : Nat) (f : Fo) (s : Sc) (k : Nat) : Prop := N < p + 3 * k + 3 ∨ foW f + k = 12 ∨ ∀ h', FoM (wrS r p f s k).1 h' → f_X8_isSuch (r (p + 3 * k)) (r (p + 3 * k + 1)) (r (p + 3 * k + 2)) h' = some 0
theorem wrS_ok {r : Nat → Int32} {p N : Nat} {f : Fo} {s : Sc} (ok : FoOk f) (so : ScOk (foW f) s) : ∀ k, (∀ i, i < k → wrGo r p N f s i) → FoOk (wrS r p f s k).1 ∧ ScOk (foW (wrS r p f s k).1) (wrS r p f s k).2
  | 0, _ => ⟨ok, so⟩
  | k + 1, hg => by
    obtain ⟨h1, h2⟩ := wrS_ok ok so k (fun i hi => hg i (by omega))
    obtain ⟨g1, g2, i, j, g, a1, a2, a3, a4, a5, a6, a7, a8⟩ := hg k (by omega)
    have hw := wrS_W r p f s k
    have hp := wrS_P r p f s k
    have hP := ok.1
    refine ⟨?_, addS_ok h2⟩
    show FoOk (addF _ _ _ _)
    rw [a5, a6, a7, nI_clamp (by omega), nI_clamp (by omega), nI_clamp (by omega)]
    exact addF_ok h1 (by omega) (by omega) (by omega) a3 a4
theorem wrX {f : Fo} {s : Sc} {h : Hp} {k p n N : Nat} (q : LR h) (ok : FoOk f) (so : ScOk (foW f) s) (F : FoX f h) (S : ScX (foW f) s 13 h) (hk : k < 6) (w3 : h.1 38 k = nI N) (hN : N ≤ 60) (hn : n ≤ 12) (hp : p < 2 ^ 31) : Ev (iter (b_X7_wrongs_61 (nI k) (nI n)) FU (0, nI p, 0, h)) fun o => ∃ m h1, m ≤ n ∧ (∀ i, i < m → wrGo (fun j => (h.2.1 (32 + k) j).toInt32) p N f s i) ∧ (m = n ∨ wrNo (fun j => (h.2.1 (32 + k) j).toInt32) p N f s m) ∧ Sum.elim (fun a : Int32 × Int32 × Int32 × Hp => (a.1, a.2.2.2)) (fun r : Int32 × Hp => r) o = (nI m, h1) ∧ FoX (wrS (fun j => (h.2.1 (32 + k) j).toInt32) p f s m).1 h1 ∧ ScX (foW (wrS (fun j => (h.2.1 (32 + k) j).toInt32) p f s m).1) (wrS (fun j => (h.2.1 (32 + k) j).toInt32) p f s m).2 13 h1 ∧ Kp [1, 4, 5, 6, 15] h h1 := by
  generalize hr : (fun j => (h.2.1 (32 + k) j).toInt32) = r
  have n10 : ¬ (1 : Int32) = 0 := by decide
  refine ev_for (k := 0) (fun c (x : Int32 × Int32 × Int32 × Hp) => x.1 = nI c ∧ x.2.1 = nI (p + 3 * c) ∧ x.2.2.1 = nI c ∧ (c = 0 ∨ p + 3 * c ≤ 60) ∧ (∀ i, i < c → wrGo r p N f s i) ∧ FoX (wrS r p f s c).1 x.2.2.2 ∧ ScX (foW (wrS r p f s c).1) (wrS r p f s c).2 13 x.2.2.2 ∧ Kp [1, 4, 5, 6, 15] h x.2.2.2) n (fun c x hc hP => ?_) ⟨rfl, rfl, rfl, Or.inl rfl, fun i hi => absurd hi (Nat.not_lt_zero i), F, S, Kp.refl q⟩ (Nat.zero_le _) (by rw [FUe]; omega)
  obtain ⟨x1, x2, x3, g⟩ := x
  obtain ⟨p1, p2, p3, p4, p5, p6, p7, p8⟩ := hP
  simp only at p1 p2 p3 p4 p5 p6 p7 p8
  subst p1; subst p2; subst p3
  unfold b_X7_wrongs_61
  by_cases z : n ≤ c
  · rw [if_pos (nI_le z (by omega))]
    have : c = n := by omega
    subst this
    exact ev_some ⟨c, g, hc, p5, Or.inl rfl, rfl, p6, p7, p8⟩
  · rw [if_neg (by rw [nI_leI (by omega) (by omega)]; exact z)]
    have hw := wrS_W r p f s c
    have hP := wrS_P r p f s c
    obtain ⟨o1, o2⟩ := wrS_ok ok so c p5
    have hw2 := o1.2.1
    have ha : p + 3 * c < 2 ^ 31 := by omega
    have g38 : g.1 38 k = nI N := by rw [p8.i 38 (by decide)]; exact w3
    rw [nl3, part_n hk ha (by decide) hN g38]
    by_cases z2 : p + 3 * c + 3 ≤ N
    · rw [if_pos z2]
      simp only [Option.bind_some, if_neg n10]
      rw [p6.2.1]
      by_cases z3 : foW (wrS r p f s c).1 = 12
      · rw [if_pos (by rw [z3]; rfl)]
        exact ev_some ⟨c, g, hc, p5, Or.inr (Or.inr (Or.inl (by omega))), rfl, p6, p7, p8⟩
      · rw [if_neg (by rw [nl12, nI_eq (by omega) (by decide)]; exact z3)]
        rw [nl1, nl2, nI_add, nI_add, val_n hk (by omega), val_n hk (by omega), val_n hk (by omega)]
        simp only [Option.bind_some]
        have er : ∀ j, (g.2.1 (32 + k) j).toInt32 = r j := by
          intro j
          rw [p8.l (32 + k) (by
            cases e : List.contains [1, 4, 5, 6, 15] (32 + k) with
            | false => rfl
            | true => simp at e; omega)]
          rw [← hr]
        rw [er, er, er]
        rcases so_c o1 p6 (r (p + 3 * c)) (r (p + 3 * c + 1)) (r (p + 3 * c + 2)) with ⟨i, j, y, hi, hj, h1, h9, e1, e2, e3, e4, e5⟩ | ⟨e4, e5⟩
        · rw [e4]
          simp only [Option.bind_some]
          rw [if_neg n10]
          have hg : wrGo r p N f s c := ⟨z2, by omega, i, j, y, by omega, by omega, h1, h9, e1, e2, e3, fun h' hh => by have := e5 h' hh; rwa [e1, e2, e3] at this⟩
          rw [e1, e2, e3]
          have hP10 := ok.1
          obtain ⟨g1, a1, a2, a3, a4⟩ := addX p8.1 p6 p7 (by omega) i j y
          rw [a1]
          refine ev_some ⟨by omega, by rw [nI_add], by show nI (p + 3 * c) + nI 3 = _; rw [nI_add]; exact congrArg nI (by omega), by rw [nI_add], Or.inr (by omega), fun i' hi' => ?_, ?_, ?_, p8.trans a4⟩
          · by_cases q : i' = c
            · subst q; exact hg
            · exact p5 i' (by omega)
          · show FoX (addF _ (r (p + 3 * c)).toNatClampNeg (r (p + 3 * c + 1)).toNatClampNeg (r (p + 3 * c + 2)).toNatClampNeg) _
            rw [e1, e2, e3, nI_clamp (by omega), nI_clamp (by omega), nI_clamp (by omega)]
            exact a2
          · exact a3
        · rw [e4]
          exact ev_some ⟨c, g, hc, p5, Or.inr (Or.inr (Or.inr e5)), rfl, p6, p7, p8⟩
    · rw [if_neg z2]
      exact ev_some ⟨c, g, hc, p5, Or.inr (Or.inl (by omega)), rfl, p6, p7, p8⟩
theorem wrM {f : Fo} {s : Sc} {h : Hp} {r : Nat → Int32} {k p n N m : Nat} (q : LR h) (ok : FoOk f) (so : ScOk (foW f) s) (F : FoM f h) (S : ScM (foW f) s h) (hk : k < 6) (w4 : h.1 80 k = nI N) (hN : N ≤ 60) (hn : n ≤ 12) (hp : p < 2 ^ 31) (hr : ∀ j, j < 60 → (h.2.1 81 (60 * k + j)).toInt32 = r j) (hm : m ≤ n) (hgo : ∀ i, i < m → wrGo r p N f s i) (hno : m = n ∨ wrNo r p N f s m) : Ev (iter (b_X8_wrongs_49 (nI k) (nI p) (nI n)) FU (0, 0, h)) fun o => ∃ h1, Sum.elim (fun a : Int32 × Int32 × Hp => (a.1, a.2.2)) (fun r : Int32 × Hp => r) o = (nI m, h1) ∧ FoM (wrS r p f s m).1 h1 ∧ ScM (foW (wrS r p f s m).1) (wrS r p f s m).2 h1 ∧ Kp [53, 57, 58, 59, 60, 61] h h1 ∧ ∀ j, j ≠ 4 → h1.1 53 j = h.1 53 j := by
  have n10 : ¬ (1 : Int32) = 0 := by decide
  refine ev_for (k := 0) (fun c (x : Int32 × Int32 × Hp) => x.1 = nI c ∧ x.2.1 = nI c ∧ (c = 0 ∨ p + 3 * c ≤ 60) ∧ FoM (wrS r p f s c).1 x.2.2 ∧ ScM (foW (wrS r p f s c).1) (wrS r p f s c).2 x.2.2 ∧ Kp [53, 57, 58, 59, 60, 61] h x.2.2 ∧ ∀ j, j ≠ 4 → x.2.2.1 53 j = h.1 53 j) m (fun c x hc hP => ?_) ⟨rfl, rfl, Or.inl rfl, F, S, Kp.refl q, fun _ _ => rfl⟩ (Nat.zero_le _) (by rw [FUe]; omega)
  obtain ⟨x1, x2, g⟩ := x
  obtain ⟨p1, p2, p3, p4, p5, p6, p7⟩ := hP
  simp only at p1 p2 p3 p4 p5 p6 p7
  subst p1; subst p2
  have hw := wrS_W r p f s c
  have hP := wrS_P r p f s c
  obtain ⟨o1, o2⟩ := wrS_ok ok so c (fun i hi => hgo i (by omega))
  have hw2 := o1.2.1
  have hP10 := ok.1
  have ha : p + 3 * c < 2 ^ 31 := by omega
  obtain ⟨l1, l2, l3⟩ := l64_c (N := N) hp (show c < 100 by omega) (by omega) ha
  unfold b_X8_wrongs_49
  have g80 : g.1 80 k = nI N := by rw [p6.i 80 (by decide)]; exact w4
  have er : ∀ j, j < 60 → (g.2.1 81 (60 * k + j)).toInt32 = r j := by
    intro j hj
    rw [p6.l 81 (by decide)]
    exact hr j hj
  by_cases z : m ≤ c
  · have : c = m := by omega
    subst this
    rcases hno with hno | hno
    · rw [if_pos (nI_le (by omega) (by omega))]
      exact ev_some ⟨g, rfl, p4, p5, p6, p7⟩
    · refine ev_if (fun _ => ev_some ⟨g, rfl, p4, p5, p6, p7⟩) (fun _ => ?_)
      rw [if_neg l1, rd_80 hk, g80]
      simp only [Option.bind_some]
      refine ev_if (fun _ => ev_some ⟨g, rfl, p4, p5, p6, p7⟩) (fun y => ?_)
      have y2 : ¬ N < p + 3 * c + 3 := fun q => y (l2.mpr q)
      rw [p4.2.1]
      refine ev_if (fun _ => ev_some ⟨g, rfl, p4, p5, p6, p7⟩) (fun y3 => ?_)
      rcases hno with hno | hno | hno
      · exact absurd hno y2
      · exact absurd (by rw [hw, hno]; rfl) y3
      · rw [l3, nl1, nl2, nI_add, nI_add, told_n hk (by omega), told_n hk (by omega), told_n hk (by omega), er _ (by omega), er _ (by omega), er _ (by omega)]
        simp only [Option.bind_some]
        rw [hno g p4]
        exact ev_some ⟨g, rfl, p4, p5, p6, p7⟩
  · obtain ⟨g1, g2, i, j, y, a1, a2, a3, a4, a5, a6, a7, a8⟩ := hgo c (by omega)
    rw [if_neg (by rw [nI_leI (by omega) (by omega)]; omega), if_neg l1, rd_80 hk, g80]
    simp only [Option.bind_some]
    rw [if_neg (fun q => by have := l2.mp q; omega), p4.2.1, if_neg (by rw [nl12, nI_eq (by omega) (by decide)]; omega), l3, nl1, nl2, nI_add, nI_add, told_n hk (by omega), told_n hk (by omega), told_n hk (by omega), er _ (by omega), er _ (by omega), er _ (by omega), a5, a6, a7]
    simp only [Option.bind_some]
    rw [a8 g p4]
    simp only [Option.bind_some, if_neg (show ¬ (nI 1 = 0) by decide)]
    rw [if_neg n10]
    obtain ⟨h2, b1, b2, b3, b4, b5⟩ := addM p6.1 p4 p5 (by omega) i j y
    rw [b1]
    refine ev_some ⟨by omega, by rw [nI_add], by rw [nI_add], Or.inr (by omega), ?_, b3, p6.trans b4, fun j hj => by show h2.1 53 j = _; rw [b5 j hj, p7 j hj]⟩
    show FoM (addF _ (r (p + 3 * c)).toNatClampNeg (r (p + 3 * c + 1)).toNatClampNeg (r (p + 3 * c + 2)).toNatClampNeg) _
    rw [a5, a6, a7, nI_clamp (by omega), nI_clamp (by omega), nI_clamp (by omega)]
    exact b2
theorem elim_some {α β : Type} (o : α ⊕ β) (f : α → β) : Sum.elim (fun a => some (f a)) (fun r => some r) o = some (Sum.elim f (fun r => r) o) := by cases o <;> rfl
theorem a_wrongs (v w u : Int32) (h : Hp) (R : Rel h) : Ag (f_X7_wrongs v w u h) (f_X8_wrongs v w u) := by
  have R0 := R
  obtain ⟨f, s, φ, b, R0A⟩ := R
  obtain ⟨⟨r1, r2, r3, r4⟩, ⟨r5, r6, r7, r8⟩, ⟨r9, r10⟩, r11, r12, r13, r14, r15, r16⟩ := id R0A
  have n10 : ¬ (1 : Int32) = 0 := by decide
  have hb := r16.1
  rcases shelf_c v with ⟨k, hk, rfl, e1, e2⟩ | ⟨e1, e2⟩
  rotate_left
  · refine ag_same R0 (v := -1) ?_ ?_
    · unfold f_X7_wrongs; rw [e1]; rfl
    · unfold f_X8_wrongs; rw [e2]; rfl
  rcases rng_c 1 12 (by decide) (by decide) u with ⟨n, rfl, x1, x2, x3, x4, x5⟩ | ⟨x1, x2⟩
  rotate_left
  · refine ag_same R0 (v := -1) ?_ ?_
    · unfold f_X7_wrongs; rw [e1]; simp only [Option.bind_some, if_neg n10]
      rcases x1 with q | q
      · rw [if_pos (by rw [nl1]; exact q)]
      · split
        · rfl
        · rw [if_neg (by rw [nl12]; exact q)]
    · unfold f_X8_wrongs; rw [e2]; simp only [Option.bind_some, if_neg n10]; rw [nl1, nl12, x2]; rfl
  have H7 : f_X7_wrongs (nI k) w (nI n) h = (f_X6_isEmpty (nI k) h).bind fun r5 => if r5 = 0 then (f_X6_isRowOf (nI k) 0 h).bind fun r7 => if r7 = 0 then some ((-12), h) else (iter (b_X7_wrongs_61 (nI k) (nI n)) FU (0, w, 0, h)).bind (Sum.elim (fun a19 => some (a19.1, a19.2.2.2)) (fun r => some r)) else some (0, h) := by
    unfold f_X7_wrongs; rw [e1]; simp only [Option.bind_some, if_neg n10]; rw [if_neg (by rw [nl1]; exact x3), if_pos (by rw [nl12]; exact x4)]
  have H8 : ∀ g : Hp, f_X8_wrongs (nI k) w (nI n) g = if g.1 79 k = -1 then some (0, g) else if g.1 79 k = 0 then (iter (b_X8_wrongs_49 (nI k) w (nI n)) FU (0, 0, g)).bind (Sum.elim (fun a23 => some (a23.1, a23.2.2)) (fun r => some r)) else some ((-12), g) := by
    intro g
    unfold f_X8_wrongs; rw [e2]; simp only [Option.bind_some, if_neg n10]; rw [show f_X8_within (nI n) 1 12 = some 1 from x5]; simp only [Option.bind_some, if_neg n10]; rw [rd_79 hk]; rfl
  obtain ⟨w1, N, w2, w3, w4⟩ := r15 k hk
  have eI : f_X6_isEmpty (nI k) h = if h.1 39 k = -1 then some 1 else some 0 := by unfold f_X6_isEmpty; rw [rd_39 hk]; rfl
  have eR : f_X6_isRowOf (nI k) 0 h = if h.1 39 k = 0 then some 1 else some 0 := by unfold f_X6_isRowOf; rw [rd_39 hk]; rfl
  rw [H7, eI, eR]
  rcases w1 with ⟨q1, q2⟩ | ⟨q1, d, q2, q3, q4⟩ | ⟨t, q1, q2, q3, q4, q5⟩
  · refine ag_same R0 (v := 0) ?_ ?_
    · rw [if_pos q1]; rfl
    · rw [H8, if_pos q2]
  · refine ag_same R0 (v := -12) ?_ ?_
    · rw [q1]; rfl
    · rw [H8, q4, if_neg (nI_m1 (by omega)), if_neg (by rw [nl0, nI_eq (by omega) (by decide)]; omega)]
  rw [q2, if_neg (nI_m1 (by omega))]
  simp only [Option.bind_some, if_true]
  by_cases t0 : t = 0
  rotate_left
  · have y : ¬ nI t = 0 := by rw [nl0, nI_eq (by omega) (by decide)]; exact t0
    refine ag_same R0 (v := -12) ?_ ?_
    · rw [if_neg y]; rfl
    · rw [H8, q3, if_neg (nI_m1 (by omega)), if_neg y]
  subst t0
  rw [if_pos (show nI 0 = (0 : Int32) from rfl)]
  simp only [Option.bind_some, if_neg n10]
  have H9 : ∀ g : Hp, g.1 79 k = nI 0 → f_X8_wrongs (nI k) w (nI n) g = (iter (b_X8_wrongs_49 (nI k) w (nI n)) FU (0, 0, g)).bind (Sum.elim (fun a23 => some (a23.1, a23.2.2)) (fun r => some r)) := by
    intro g hg
    rw [H8, hg, if_neg (nI_m1 (by decide)), if_pos (show nI 0 = (0 : Int32) from rfl)]
  rcases i32_split w with ⟨p, hp, rfl⟩ | hw
  rotate_left
  · refine ag_same R0 (v := 0) ?_ ?_
    · rw [FUe]
      show ((b_X7_wrongs_61 (nI k) (nI n) (0, w, 0, h)).bind _).bind _ = _
      unfold b_X7_wrongs_61
      rw [if_neg (by rw [nl0, nI_leI (by omega) (by decide)]; omega)]
      unfold f_X6_hasPart
      rw [if_pos hw]
      rfl
    · rw [H9 h q3, FUe]
      show ((b_X8_wrongs_49 (nI k) w (nI n) (0, 0, h)).bind _).bind _ = _
      unfold b_X8_wrongs_49
      have hl : lg_cmp (w.toInt64 + (3 * (0 : Int32).toInt64)) 0 < 0 := by
        have e : (w.toInt64 + (3 * (0 : Int32).toInt64)) = w.toInt64 := by
          rw [show (3 * (0 : Int32).toInt64) = 0 by decide, Int64.add_zero]
        rw [e]
        have hi : w.toInt64.toInt < 0 := by
          rw [Int32.toInt_toInt64]
          rw [Int32.lt_iff_toInt_lt, show (0 : Int32).toInt = 0 by decide] at hw
          exact hw
        unfold lg_cmp
        rw [if_neg (show ¬ (0 : Int64) < w.toInt64 by rw [Int64.lt_iff_toInt_lt, show (0 : Int64).toInt = 0 by decide]; omega), if_neg (fun x => by rw [x] at hi; exact absurd hi (by decide))]
        decide
      rw [if_neg (by rw [nl0, nI_leI (by omega) (by decide)]; omega), if_pos hl]
      rfl
  unfold Ag
  refine ev_call (wrX r1 r3 r4 r5 r7 hk w3 w2 x2 hp) (fun o ho => ?_)
  obtain ⟨m, h1, m1, m2, m3, m4, m5, m6, m7⟩ := ho
  rw [elim_some, m4]
  refine ⟨_, rfl, ?_⟩
  simp only
  rw [H9 h1 (by rw [m7.i 79 (by decide)]; exact q3)]
  have g53 : h1.1 53 = h.1 53 := m7.i 53 (by decide)
  have g6 : FoM f h1 := r6.kp m7 (by rw [g53]) (by rw [g53]) (by decide)
  have g8 : ScM (foW f) s h1 := r8.kp m7 (by rw [g53]) (by decide)
  refine ev_call (wrM (r := fun j => (h.2.1 (32 + k) j).toInt32) m7.1 r3 r4 g6 g8 hk (by rw [m7.i 80 (by decide)]; exact w4) w2 x2 hp (fun j hj => by rw [m7.l 81 (by decide), ← q4 j hj]) m1 m2 m3) (fun o2 ho2 => ?_)
  obtain ⟨h2, b1, b2, b3, b4, b5⟩ := ho2
  rw [elim_some, b1]
  refine ⟨_, rfl, rfl, (wrS (fun j => (h.2.1 (32 + k) j).toInt32) p f s m).1, (wrS (fun j => (h.2.1 (32 + k) j).toInt32) p f s m).2, φ, b, ?_⟩
  have hw := wrS_W (fun j => (h.2.1 (32 + k) j).toInt32) p f s m
  have hP := wrS_P (fun j => (h.2.1 (32 + k) j).toInt32) p f s m
  obtain ⟨o1, o3⟩ := wrS_ok r3 r4 m m2
  refine R0A.fo ((m7.mono (by decide)).trans (b4.mono (by decide))) (fun j _ h4 _ _ _ => by rw [b5 j h4, g53]) o1 (m5.kp b4 (by decide)) b2 o3 (m6.kp b4 (by decide) (by decide) (by decide)) b3 (by omega) ?_
  refine Chg.mono (f := f) (by omega) (by omega) (r14.eq ?_ ?_ ?_ ?_ ?_ ?_ ?_ ?_)
  · rw [b4.i 25 (by decide), m7.i 25 (by decide)]
  · rw [b4.i 26 (by decide), m7.i 26 (by decide)]
  · rw [b4.i 27 (by decide), m7.i 27 (by decide)]
  · rw [b4.i 28 (by decide), m7.i 28 (by decide)]
  · rw [b4.i 29 (by decide), m7.i 29 (by decide)]
  · rw [b4.i 76 (by decide), m7.i 76 (by decide)]
  · rw [b5 34 (by decide), g53]
  · rw [b5 35 (by decide), g53]
