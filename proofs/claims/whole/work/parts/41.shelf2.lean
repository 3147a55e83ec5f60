theorem row_out {k c : Nat} {L : List Nat} (hk : k < 6) (hL : ([32, 33, 34, 35, 36, 37].all fun c => L.contains c) = true) (hc : L.contains c = false) : c ≠ 32 + k := fun e => by
  have h1 := List.all_eq_true.mp hL (32 + k) (by simp; omega)
  rw [e, h1] at hc
  cases hc
theorem fill_row {k : Nat} (hk : k < 6) (h : Hp) : Ev (f_J7_fill_d0a16 (32 + k) 0 h) fun g => (∀ j, j < 60 → g.2.1 (32 + k) j = 0) ∧ (∀ c, c ≠ 32 + k → g.2.1 c = h.2.1 c) ∧ g.1 = h.1 ∧ g.2.2 = h.2.2 := by
  unfold f_J7_fill_d0a16
  rw [show lnL (32 + k) = some (nI 60) from by unfold lnL; rw [row_sz hk]; rfl]
  simp only [Option.bind_some]
  refine ev_call (P := fun s' : Int32 × Hp => (∀ j, j < 60 → s'.2.2.1 (32 + k) j = 0) ∧ (∀ c, c ≠ 32 + k → s'.2.2.1 c = h.2.1 c) ∧ s'.2.1 = h.1 ∧ s'.2.2.2 = h.2.2) (ev_for (k := 0) (fun i s' => s'.1 = nI i ∧ (∀ j, j < i → s'.2.2.1 (32 + k) j = 0) ∧ (∀ c, c ≠ 32 + k → s'.2.2.1 c = h.2.1 c) ∧ s'.2.1 = h.1 ∧ s'.2.2.2 = h.2.2) 60 (fun i s' hi hP => ?_) ⟨rfl, fun j hj => absurd hj (Nat.not_lt_zero j), fun _ _ => rfl, rfl, rfl⟩ (Nat.zero_le _) (by rw [FUe]; decide)) (fun x hx => ev_some hx)
  obtain ⟨x, g⟩ := s'
  obtain ⟨p1, p2, p3, p4, p5⟩ := hP
  simp only at p1 p2 p3 p4 p5
  subst p1
  unfold b_J7_fill_d0a16_6
  by_cases z : 60 ≤ i
  · rw [if_pos (nI_le z (by omega))]
    have : i = 60 := by omega
    subst this
    exact ev_some ⟨p2, p3, p4, p5⟩
  · rw [if_neg (by rw [nI_leI (by decide) (by omega)]; exact z), wrL_n (by rw [row_sz hk]; omega) (by rw [row_sz hk]; decide)]
    refine ev_some ⟨by omega, by rw [nl1, nI_add], fun j hj => ?_, fun c hc => ?_, p4, p5⟩
    · show (stL g (32 + k) i 0).2.1 (32 + k) j = 0
      rw [stL_at, if_pos rfl]
      by_cases e : j = i
      · rw [if_pos e]
      · rw [if_neg e]; exact p2 j (by omega)
    · funext j
      show (stL g (32 + k) i 0).2.1 c j = _
      rw [stL_at, if_neg hc, p3 c hc]
theorem zero_m {k : Nat} (hk : k < 6) (h : Hp) : Ev (iter (b_X8_row_48 (nI k)) FU (0, h)) fun s' : Int32 × Hp => (∀ j, j < 60 → s'.2.2.1 81 (60 * k + j) = 0) ∧ (∀ j, (j < 60 * k ∨ 60 * k + 60 ≤ j) → s'.2.2.1 81 j = h.2.1 81 j) ∧ (∀ c, c ≠ 81 → s'.2.2.1 c = h.2.1 c) ∧ s'.2.1 = h.1 ∧ s'.2.2.2 = h.2.2 := by
  refine ev_for (k := 0) (fun i (s' : Int32 × Hp) => s'.1 = nI i ∧ (∀ j, j < i → s'.2.2.1 81 (60 * k + j) = 0) ∧ (∀ j, (j < 60 * k ∨ 60 * k + 60 ≤ j) → s'.2.2.1 81 j = h.2.1 81 j) ∧ (∀ c, c ≠ 81 → s'.2.2.1 c = h.2.1 c) ∧ s'.2.1 = h.1 ∧ s'.2.2.2 = h.2.2) 60 (fun i s' hi hP => ?_) ⟨rfl, fun j hj => absurd hj (Nat.not_lt_zero j), fun j _ => rfl, fun _ _ => rfl, rfl, rfl⟩ (Nat.zero_le _) (by rw [FUe]; decide)
  obtain ⟨x, g'⟩ := s'
  obtain ⟨p1, p2, p3, p4, p5, p6⟩ := hP
  simp only at p1 p2 p3 p4 p5 p6
  subst p1
  unfold b_X8_row_48
  by_cases z : 60 ≤ i
  · rw [if_pos (by rw [nl60]; exact nI_le z (by omega))]
    have : i = 60 := by omega
    subst this
    exact ev_some ⟨p2, p3, p4, p5, p6⟩
  · rw [if_neg (by rw [nl60, nI_leI (by decide) (by omega)]; exact z), nl60, nI_mul, nI_add, wr_81 (by omega)]
    refine ev_some ⟨by omega, by rw [nl1, nI_add], fun j hj => ?_, fun j hj => ?_, fun c hc => ?_, p5, p6⟩
    · show (stL g' 81 (60 * k + i) 0).2.1 81 (60 * k + j) = 0
      rw [stL_at, if_pos rfl]
      by_cases e : j = i
      · rw [if_pos (by rw [e])]
      · rw [if_neg (by omega)]; exact p2 j (by omega)
    · show (stL g' 81 (60 * k + i) 0).2.1 81 j = _
      rw [stL_at, if_pos rfl, if_neg (by omega)]; exact p3 j hj
    · funext j
      show (stL g' 81 (60 * k + i) 0).2.1 c j = _
      rw [stL_at, if_neg hc, p4 c hc]
/-- a row is laid on a shelf -/
theorem a_row (v w u : Int32) (h : Hp) (R : Rel h) : Ag (f_X7_row v w u h) (f_X8_row v w u) := by
  have R0 := R
  obtain ⟨f, s, φ, b, R0A⟩ := R
  obtain ⟨⟨r1, r2, r3, r4⟩, ⟨r5, r6, r7, r8⟩, ⟨r9, r10⟩, r11, r12, r13, r14, r15, r16⟩ := id R0A
  have n10 : ¬ (1 : Int32) = 0 := by decide
  rcases shelf_c v with ⟨k, hk, rfl, e1, e2⟩ | ⟨e1, e2⟩
  · rcases sort_c w with ⟨t, ht, rfl, e3, e4⟩ | ⟨e3, e4⟩
    · rcases i32_split u with ⟨n, hn, rfl⟩ | ha
      · by_cases q : n ≤ 60
        · unfold Ag f_X7_row f_X6_setRow
          rw [e1, e3]
          simp only [Option.bind_some, if_neg n10]
          rw [if_pos (by rw [nl60]; exact nI_le q (by decide)), if_pos (nI_pos' hn), wr_39 hk]
          simp only [Option.bind_some]
          rw [wr_38 hk]
          simp only [Option.bind_some]
          rw [row_at hk]
          simp only [Option.bind_some]
          obtain ⟨g, g0, g1, g2', g3, g4'⟩ := fill_row hk (stI (stI h 39 k (nI t)) 38 k (nI n))
          have g2 : ∀ c, c ≠ 32 + k → g.2.1 c = h.2.1 c := g2'
          have g4 : g.2.2 = h.2.2 := g4'
          rw [g0]
          refine ⟨_, rfl, ?_⟩
          simp only
          have K1 : Kp [32, 33, 34, 35, 36, 37, 38, 39] h g := by
            refine ⟨by unfold LR; rw [g4]; exact r1, fun c hc => ⟨?_, ?_, by rw [g4]⟩⟩
            · rw [g3]
              have n39 : c ≠ 39 := fun e => by subst e; revert hc; decide
              have n38 : c ≠ 38 := fun e => by subst e; revert hc; decide
              funext j
              rw [stI_at, if_neg n38, stI_at, if_neg n39]
            · exact g2 c (row_out hk (by decide) hc)
          unfold f_X8_row
          rw [e2, e4]
          simp only [Option.bind_some, if_neg n10]
          rw [if_pos (by rw [nl60]; exact nI_le q (by decide)), if_pos (nI_pos' hn), wr_79 hk]
          simp only [Option.bind_some]
          rw [wr_80 hk]
          simp only [Option.bind_some]
          have hg0 : ∀ c, c ≠ 81 → (stI (stI g 79 k (nI t)) 80 k (nI n)).2.1 c = g.2.1 c := fun _ _ => rfl
          refine ev_call (zero_m hk _) (fun x hx => ?_)
          obtain ⟨p2, p3', p4', p5, p6'⟩ := hx
          have p4 : ∀ c, c ≠ 81 → x.2.2.1 c = g.2.1 c := fun c hc => p4' c hc
          have p3 : ∀ j, (j < 60 * k ∨ 60 * k + 60 ≤ j) → x.2.2.1 81 j = h.2.1 81 j := fun j hj => by rw [p3' j hj]; show g.2.1 81 j = _; rw [g2 81 (by omega)]
          have p6 : x.2.2.2 = h.2.2 := by rw [p6']; exact g4
          · refine ev_some ⟨rfl, f, s, φ, b, R0A.shv ⟨by unfold LR; rw [p6]; exact r1, fun c hc => ⟨?_, ?_, by rw [p6]⟩⟩ (fun j hj => ?_)⟩
            · rw [p5]
              have n79 : c ≠ 79 := fun e => by subst e; revert hc; decide
              have n80 : c ≠ 80 := fun e => by subst e; revert hc; decide
              have h1 := K1.i c (by
                cases e : List.contains [32, 33, 34, 35, 36, 37, 38, 39] c with
                | false => rfl
                | true =>
                  have hc2 : c ∈ [32, 33, 34, 35, 36, 37, 38, 39] := by simpa using e
                  have hc3 : ¬ c ∈ [32, 33, 34, 35, 36, 37, 38, 39, 40, 79, 80, 81] := by simpa using hc
                  simp at hc2 hc3
                  omega)
              funext j
              rw [stI_at, if_neg n80, stI_at, if_neg n79, h1]
            · have n81 : c ≠ 81 := fun e => by subst e; revert hc; decide
              rw [p4 c n81]
              exact g2 c (row_out hk (by decide) hc)
            · obtain ⟨w1, n', w2, w3, w4⟩ := r15 j hj
              have c39 : x.2.1 39 j = if j = k then nI t else h.1 39 j := by rw [p5]; simp [stI_at, g3]
              have c38 : x.2.1 38 j = if j = k then nI n else h.1 38 j := by rw [p5]; simp [stI_at, g3]
              have c79 : x.2.1 79 j = if j = k then nI t else h.1 79 j := by rw [p5]; simp [stI_at, g3]
              have c80 : x.2.1 80 j = if j = k then nI n else h.1 80 j := by rw [p5]; simp [stI_at, g3]
              have c40 : x.2.1 40 j = h.1 40 j := by rw [p5]; simp [stI_at, g3]
              by_cases z : j = k
              · subst z
                rw [if_pos rfl] at c39 c38 c79 c80
                refine ⟨Or.inr (Or.inr ⟨t, ht, c39, c79, fun i hi => ?_, fun _ i hi => ⟨0, ?_⟩⟩), n, q, c38, c80⟩
                · show x.2.2.1 (32 + j) i = _
                  rw [p4 _ (by omega), g1 i hi, p2 i hi]
                · show x.2.2.1 (32 + j) i = _
                  rw [p4 _ (by omega), g1 i hi]; rfl
              · rw [if_neg z] at c39 c38 c79 c80
                refine ⟨?_, n', w2, by show x.2.1 38 j = _; rw [c38, w3], by show x.2.1 80 j = _; rw [c80, w4]⟩
                show (x.2.1 39 j = -1 ∧ x.2.1 79 j = -1) ∨ _
                unfold ShAt at w1
                have row1 : ∀ i, i < 60 → x.2.2.1 (32 + j) i = h.2.1 (32 + j) i := fun i hi => by rw [p4 _ (by omega), g2 _ (by omega)]
                have row2 : ∀ i, i < 60 → x.2.2.1 81 (60 * j + i) = h.2.1 81 (60 * j + i) := fun i hi => p3 _ (by omega)
                rcases w1 with y | ⟨y1, d, y2, y3, y4⟩ | ⟨t', y1, y2, y3, y4, y5⟩
                · exact Or.inl ⟨by rw [c39, y.1], by rw [c79, y.2]⟩
                · exact Or.inr (Or.inl ⟨by show x.2.1 39 j = _; rw [c39, y1], d, y2, by show x.2.1 40 j = _; rw [c40, y3], by show x.2.1 79 j = _; rw [c79, y4]⟩)
                · refine Or.inr (Or.inr ⟨t', y1, by show x.2.1 39 j = _; rw [c39, y2], by show x.2.1 79 j = _; rw [c79, y3], fun i hi => ?_, fun e i hi => ?_⟩)
                  · show x.2.2.1 _ _ = x.2.2.1 _ _
                    rw [row1 i hi, row2 i hi, y4 i hi]
                  · obtain ⟨v', hv⟩ := y5 e i hi
                    exact ⟨v', by show x.2.2.1 _ _ = _; rw [row1 i hi, hv]⟩
        · refine ag_same R0 (v := -1) ?_ ?_
          · unfold f_X7_row; rw [e1]; simp only [Option.bind_some, if_neg n10]; rw [e3]; simp only [Option.bind_some, if_neg n10]; rw [if_neg (by rw [nl60, nI_leI hn (by decide)]; exact q)]
          · unfold f_X8_row; rw [e2]; simp only [Option.bind_some, if_neg n10]; rw [e4]; simp only [Option.bind_some, if_neg n10]; rw [if_neg (by rw [nl60, nI_leI hn (by decide)]; exact q)]
      · have a1 : u ≤ 60 := by
          rw [Int32.lt_iff_toInt_lt, show (0 : Int32).toInt = 0 by decide] at ha
          rw [Int32.le_iff_toInt_le, show (60 : Int32).toInt = 60 by decide]
          omega
        have a2 : ¬ 0 ≤ u := by
          rw [Int32.lt_iff_toInt_lt, show (0 : Int32).toInt = 0 by decide] at ha
          rw [Int32.le_iff_toInt_le, show (0 : Int32).toInt = 0 by decide]
          omega
        refine ag_same R0 (v := -14) ?_ ?_
        · unfold f_X7_row; rw [e1]; simp only [Option.bind_some, if_neg n10]; rw [e3]; simp only [Option.bind_some, if_neg n10]; rw [if_pos a1, if_neg a2]
        · unfold f_X8_row; rw [e2]; simp only [Option.bind_some, if_neg n10]; rw [e4]; simp only [Option.bind_some, if_neg n10]; rw [if_pos a1, if_neg a2]
    · refine ag_same R0 (v := -1) ?_ ?_
      · unfold f_X7_row; rw [e1]; simp only [Option.bind_some, if_neg n10]; rw [e3]; rfl
      · unfold f_X8_row; rw [e2]; simp only [Option.bind_some, if_neg n10]; rw [e4]; rfl
  · refine ag_same R0 (v := -1) ?_ ?_
    · unfold f_X7_row; rw [e1]; rfl
    · unfold f_X8_row; rw [e2]; rfl
