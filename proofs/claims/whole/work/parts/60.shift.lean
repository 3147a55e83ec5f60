/-! a part of a row comes to another one -/
theorem s64_c {a c N : Nat} (ha : a < 2 ^ 31) (hc : c < 2 ^ 31) (hN : N < 2 ^ 31) : (0 < lg_cmp ((nI a).toInt64 + (nI c).toInt64) (nI N).toInt64 ↔ N < a + c) ∧ (lg_cmp ((nI a).toInt64 + (nI c).toInt64) (nI N).toInt64 ≤ 0 ↔ a + c ≤ N) := by
  have e : ((nI a).toInt64 + (nI c).toInt64).toInt = (a : Int) + c := by
    rw [Int64.toInt_add, Int32.toInt_toInt64, Int32.toInt_toInt64, nI_toInt ha, nI_toInt hc]
    rw [Int.bmod_eq_of_le] <;> omega
  have e2 : ((nI N).toInt64).toInt = (N : Int) := by rw [Int32.toInt_toInt64, nI_toInt hN]
  unfold lg_cmp
  by_cases q : N < a + c
  · rw [if_pos (show (nI N).toInt64 < (nI a).toInt64 + (nI c).toInt64 by rw [Int64.lt_iff_toInt_lt, e, e2]; omega)]
    exact ⟨⟨fun _ => q, fun _ => by decide⟩, ⟨fun x => absurd x (by decide), fun x => by omega⟩⟩
  · rw [if_neg (show ¬ (nI N).toInt64 < (nI a).toInt64 + (nI c).toInt64 by rw [Int64.lt_iff_toInt_lt, e, e2]; omega)]
    split
    · exact ⟨⟨fun x => absurd x (by decide), fun x => absurd x q⟩, ⟨fun _ => by omega, fun _ => by decide⟩⟩
    · exact ⟨⟨fun x => absurd x (by decide), fun x => absurd x q⟩, ⟨fun _ => by omega, fun _ => by decide⟩⟩
theorem cpL_n {h : Hp} {a b i j n : Nat} (ha : 0 < SL a) (hb : 0 < SL b) (h1 : i + n ≤ SL a) (h2 : j + n ≤ SL b) (hs : SL a < 2 ^ 31) (ht : SL b < 2 ^ 31) : cpL h a (nI i) b (nI j) (nI n) = some (upL h b (va_cpy (h.2.1 a) (h.2.1 b) i j n)) := by
  unfold cpL
  rw [nI_clamp (by omega), nI_clamp (by omega), nI_clamp (by omega), if_neg]
  rintro (q | q | q | q | q | q | q)
  · exact nI_pos (by omega) q
  · exact nI_pos (by omega) q
  · exact nI_pos (by omega) q
  all_goals omega
theorem shf_c {b k : Nat} {h : Hp} (hb : b ≤ 50) (hk : k < 6) (S : ShAt b h k) : (f_X6_isEmpty (nI k) h = some 1 ∧ h.1 79 k = -1) ∨ (f_X6_isEmpty (nI k) h = some 0 ∧ ¬ h.1 79 k = -1 ∧ ((h.1 39 k = -2 ∧ f_X8_isRow (nI k) h = some 0) ∨ (∃ t, t < 5 ∧ h.1 39 k = nI t ∧ h.1 79 k = nI t ∧ f_X8_isRow (nI k) h = some 1))) := by
  unfold f_X6_isEmpty f_X8_isRow
  rw [rd_39 hk, rd_79 hk]
  simp only [Option.bind_some]
  rcases S with ⟨q1, q2⟩ | ⟨q1, d, q2, q3, q4⟩ | ⟨t, q1, q2, q3, q4, q5⟩
  · exact Or.inl ⟨by rw [if_pos q1], q2⟩
  · refine Or.inr ⟨by rw [if_neg (by rw [q1]; decide)], by rw [q4]; exact nI_m1 (by omega), Or.inl ⟨q1, ?_⟩⟩
    rw [q4, nl0, nl4, within_out (by omega) (by omega) (by decide) (by decide)]; rfl
  · refine Or.inr ⟨by rw [if_neg (by rw [q2]; exact nI_m1 (by omega))], by rw [q3]; exact nI_m1 (by omega), Or.inr ⟨t, q1, q2, q3, ?_⟩⟩
    rw [q3, show f_X8_within (nI t) 0 4 = some 1 from within_in (Nat.zero_le t) (show t ≤ 4 by omega) (by decide)]; rfl
theorem part_c {k N : Nat} {h : Hp} (hk : k < 6) (w3 : h.1 38 k = nI N) (hN : N ≤ 60) (w z : Int32) : (∃ i n, w = nI i ∧ z = nI n ∧ i + n ≤ N ∧ f_X6_hasPart (nI k) w z h = some 1) ∨ (f_X6_hasPart (nI k) w z h = some 0 ∧ (z < 0 ∨ w < 0 ∨ ∃ i n, i < 2 ^ 31 ∧ n < 2 ^ 31 ∧ w = nI i ∧ z = nI n ∧ N < i + n)) := by
  unfold f_X6_hasPart
  rw [rd_38 hk, w3]
  simp only [Option.bind_some]
  rcases i32_split w with ⟨i, hi, rfl⟩ | hw
  · rcases i32_split z with ⟨n, hn, rfl⟩ | hz
    · rw [if_neg (nI_pos hi), if_neg (nI_pos hn)]
      by_cases q : n ≤ N
      · rw [if_neg (nI_nlt q (by omega)), nI_sub q]
        by_cases q2 : i + n ≤ N
        · exact Or.inl ⟨i, n, rfl, rfl, q2, by rw [if_neg (nI_nlt (by omega) (by omega))]⟩
        · exact Or.inr ⟨by rw [if_pos (nI_lt (by omega) hi)], Or.inr (Or.inr ⟨i, n, hi, hn, rfl, rfl, by omega⟩)⟩
      · exact Or.inr ⟨by rw [if_pos (nI_lt (by omega) hn)], Or.inr (Or.inr ⟨i, n, hi, hn, rfl, rfl, by omega⟩)⟩
    · exact Or.inr ⟨by rw [if_neg (nI_pos hi), if_pos hz], Or.inl hz⟩
  · exact Or.inr ⟨by rw [if_pos hw], Or.inr (Or.inl hw)⟩
/-- both parts are there, or neither side goes on -/
theorem parts_c {k l N M : Nat} {h : Hp} (hk : k < 6) (hl : l < 6) (w3 : h.1 38 k = nI N) (w4 : h.1 80 k = nI N) (hN : N ≤ 60) (x3 : h.1 38 l = nI M) (x4 : h.1 80 l = nI M) (hM : M ≤ 60) (w y z : Int32) : (∃ i j n, w = nI i ∧ y = nI j ∧ z = nI n ∧ i + n ≤ N ∧ j + n ≤ M ∧ f_X6_hasPart (nI k) w z h = some 1 ∧ f_X6_hasPart (nI l) y z h = some 1) ∨ ((f_X6_hasPart (nI k) w z h = some 0 ∨ (f_X6_hasPart (nI k) w z h = some 1 ∧ f_X6_hasPart (nI l) y z h = some 0)) ∧ (z < 0 ∨ w < 0 ∨ y < 0 ∨ ∃ i j n, i < 2 ^ 31 ∧ j < 2 ^ 31 ∧ n < 2 ^ 31 ∧ w = nI i ∧ y = nI j ∧ z = nI n ∧ (N < i + n ∨ M < j + n))) := by
  rcases part_c hk w3 hN w z with ⟨i, n, rfl, rfl, p1, p2⟩ | ⟨p1, p2⟩
  · rcases part_c hl x3 hM y (nI n) with ⟨j, n', rfl, g1, g2, g3⟩ | ⟨g1, g2⟩
    · by_cases hn' : n' < 2 ^ 31
      · have := nI_inj (by omega) hn' g1
        subst this
        exact Or.inl ⟨i, j, n, rfl, rfl, rfl, p1, g2, p2, g3⟩
      · omega
    · refine Or.inr ⟨Or.inr ⟨p2, g1⟩, ?_⟩
      rcases g2 with q | q | ⟨j, n', q1, q2, q3, q4, q5⟩
      · exact Or.inl q
      · exact Or.inr (Or.inr (Or.inl q))
      · have := nI_inj (by omega) q2 q4
        subst this
        exact Or.inr (Or.inr (Or.inr ⟨i, j, n, by omega, q1, q2, rfl, q3, rfl, Or.inr q5⟩))
  · refine Or.inr ⟨Or.inl p1, ?_⟩
    rcases p2 with q | q | ⟨i, n, q1, q2, q3, q4, q5⟩
    · exact Or.inl q
    · exact Or.inr (Or.inl q)
    · rcases i32_split y with ⟨j, hj, q6⟩ | hy
      · exact Or.inr (Or.inr (Or.inr ⟨i, j, n, q1, hj, q2, q3, q6, q4, Or.inl q5⟩))
      · exact Or.inr (Or.inr (Or.inl hy))
theorem up_m {k l i j n : Nat} (hk : k < 6) (hl : l < 6) (hi : i + n ≤ 60) (hj : j + n ≤ 60) (hd : k ≠ l ∨ j ≤ i) (h : Hp) : Ev (iter (b_X8_shift_188 (nI k) (nI i) (nI l) (nI j) (nI n)) FU (0, h)) fun s' : Int32 × Hp => s'.2.1 = h.1 ∧ s'.2.2.2 = h.2.2 ∧ (∀ c, c ≠ 81 → s'.2.2.1 c = h.2.1 c) ∧ s'.2.2.1 81 = va_cpy (h.2.1 81) (h.2.1 81) (60 * k + i) (60 * l + j) n := by
  refine ev_for (k := 0) (fun m (s' : Int32 × Hp) => s'.1 = nI m ∧ s'.2.1 = h.1 ∧ s'.2.2.2 = h.2.2 ∧ (∀ c, c ≠ 81 → s'.2.2.1 c = h.2.1 c) ∧ s'.2.2.1 81 = va_cpy (h.2.1 81) (h.2.1 81) (60 * k + i) (60 * l + j) m) n (fun m s' hm hP => ?_) ⟨rfl, rfl, rfl, fun _ _ => rfl, ?_⟩ (Nat.zero_le _) (by rw [FUe]; omega)
  · obtain ⟨x, g⟩ := s'
    obtain ⟨p1, p2, p3, p4, p5⟩ := hP
    simp only at p1 p2 p3 p4 p5
    subst p1
    unfold b_X8_shift_188
    by_cases q : n ≤ m
    · rw [if_pos (nI_le q (by omega))]
      have : m = n := by omega
      subst this
      exact ev_some ⟨p2, p3, p4, p5⟩
    · rw [if_neg (by rw [nI_leI (by omega) (by omega)]; exact q)]
      simp only [nl60, nI_mul, nI_add]
      rw [rd_81 (by omega)]
      simp only [Option.bind_some]
      rw [wr_81 (by omega)]
      refine ev_some ⟨by omega, by rw [nl1, nI_add], p2, p3, fun c hc => ?_, ?_⟩
      · funext a
        show (stL g 81 _ _).2.1 c a = _
        rw [stL_at, if_neg hc, p4 c hc]
      · funext a
        show (stL g 81 _ _).2.1 81 a = _
        rw [stL_at, if_pos rfl, p5]
        unfold va_cpy
        by_cases e : a = 60 * l + j + m
        · rw [if_pos e, if_neg (by omega), if_pos (by omega), show 60 * k + i + (a - (60 * l + j)) = 60 * k + i + m by omega]
        · rw [if_neg e]
          by_cases e2 : 60 * l + j ≤ a ∧ a < 60 * l + j + m
          · rw [if_pos e2, if_pos (by omega)]
          · rw [if_neg e2, if_neg (by omega)]
  · funext a
    show _ = va_cpy _ _ _ _ _ a
    unfold va_cpy
    rw [if_neg (by omega)]
theorem dn_m {k i j n : Nat} (hk : k < 6) (hi : i + n ≤ 60) (hj : j + n ≤ 60) (hd : i < j) (h : Hp) : Ev (iter (b_X8_shift_142 (nI k) (nI i) (nI k) (nI j) (nI n)) FU (nI n - 1, h)) fun s' : Int32 × Hp => s'.2.1 = h.1 ∧ s'.2.2.2 = h.2.2 ∧ (∀ c, c ≠ 81 → s'.2.2.1 c = h.2.1 c) ∧ s'.2.2.1 81 = va_cpy (h.2.1 81) (h.2.1 81) (60 * k + i) (60 * k + j) n := by
  refine ev_for (k := 0) (fun m (s' : Int32 × Hp) => s'.1 = nI (n - m) - 1 ∧ s'.2.1 = h.1 ∧ s'.2.2.2 = h.2.2 ∧ (∀ c, c ≠ 81 → s'.2.2.1 c = h.2.1 c) ∧ s'.2.2.1 81 = va_cpy (h.2.1 81) (h.2.1 81) (60 * k + i + (n - m)) (60 * k + j + (n - m)) m) n (fun m s' hm hP => ?_) ⟨rfl, rfl, rfl, fun _ _ => rfl, ?_⟩ (Nat.zero_le _) (by rw [FUe]; omega)
  · obtain ⟨x, g⟩ := s'
    obtain ⟨p1, p2, p3, p4, p5⟩ := hP
    simp only at p1 p2 p3 p4 p5
    subst p1
    unfold b_X8_shift_142
    by_cases q : n ≤ m
    · have : m = n := by omega
      subst this
      rw [Nat.sub_self, if_pos (show nI 0 - 1 < (0 : Int32) by decide)]
      rw [Nat.sub_self] at p5
      exact ev_some ⟨p2, p3, p4, p5⟩
    · rw [nl1, nI_sub (by omega), if_neg (nI_pos (by omega))]
      simp only [nl60, nI_mul, nI_add]
      rw [rd_81 (by omega)]
      simp only [Option.bind_some]
      rw [wr_81 (by omega)]
      refine ev_some ⟨by omega, by rw [show n - (m + 1) = n - m - 1 by omega], p2, p3, fun c hc => ?_, ?_⟩
      · funext a
        show (stL g 81 _ _).2.1 c a = _
        rw [stL_at, if_neg hc, p4 c hc]
      · funext a
        show (stL g 81 _ _).2.1 81 a = _
        rw [stL_at, if_pos rfl, p5]
        unfold va_cpy
        by_cases e : a = 60 * k + j + (n - m - 1)
        · rw [if_pos e, if_neg (by omega), if_pos (by omega)]
          refine congrArg (h.2.1 81) ?_
          omega
        · rw [if_neg e]
          by_cases e2 : 60 * k + j + (n - m) ≤ a ∧ a < 60 * k + j + (n - m) + m
          · rw [if_pos e2, if_pos (by omega)]
            refine congrArg (h.2.1 81) ?_
            omega
          · rw [if_neg e2, if_neg (by omega)]
  · funext a
    show _ = va_cpy _ _ _ _ _ a
    unfold va_cpy
    rw [if_neg (by omega)]
/-- on both sides the part has come -/
theorem shift_rel {f : Fo} {s : Sc} {φ : Ph} {b k l i j n t : Nat} {h g g' : Hp} (R : RelA f s φ b h) (hk : k < 6) (hl : l < 6) (hi : i + n ≤ 60) (hj : j + n ≤ 60) (ht : t < 5) (k39 : h.1 39 k = nI t) (l39 : h.1 39 l = nI t) (e : g = upL h (32 + l) (va_cpy (h.2.1 (32 + k)) (h.2.1 (32 + l)) i j n)) (x1 : g'.1 = g.1) (x2 : g'.2.2 = g.2.2) (x3 : ∀ c, c ≠ 81 → g'.2.1 c = g.2.1 c) (x4 : g'.2.1 81 = va_cpy (g.2.1 81) (g.2.1 81) (60 * k + i) (60 * l + j) n) : RelA f s φ b g' := by
  have r15 := R.2.2.2.2.2.2.2.1
  have hb := R.2.2.2.2.2.2.2.2.1
  have y1 : g'.1 = h.1 := by rw [x1, e]; rfl
  have y2 : g'.2.2 = h.2.2 := by rw [x2, e]; rfl
  have up : ∀ c, g.2.1 c = if c = 32 + l then va_cpy (h.2.1 (32 + k)) (h.2.1 (32 + l)) i j n else h.2.1 c := fun c => by rw [e]; rfl
  have y81 : g'.2.1 81 = va_cpy (h.2.1 81) (h.2.1 81) (60 * k + i) (60 * l + j) n := by rw [x4, up, if_neg (by omega)]
  have row : ∀ q t', h.1 39 q = nI t' → t' < 5 → q < 6 → (∀ m, m < 60 → h.2.1 (32 + q) m = h.2.1 81 (60 * q + m)) ∧ (t' = 1 → ∀ m, m < 60 → ∃ v : Int32, h.2.1 (32 + q) m = v.toInt64) := by
    intro q t' hq ht' hq6
    rcases (r15 q hq6).1 with ⟨q1, q2⟩ | ⟨q1, d, q2, q3, q4⟩ | ⟨t2, q1, q2, q3, q4, q5⟩
    · rw [hq] at q1; exact absurd q1 (nI_m1 (by omega))
    · rw [hq] at q1; exact absurd q1 (nI_m2 (by omega))
    · rw [hq] at q2
      have := nI_inj (by omega) (by omega) q2
      subst this
      exact ⟨q4, q5⟩
  obtain ⟨a1, a2⟩ := row k t k39 ht hk
  obtain ⟨b1, b2⟩ := row l t l39 ht hl
  refine R.shv ⟨by unfold LR; rw [y2]; exact R.1.1, fun c hc => ⟨by rw [y1], ?_, by rw [y2]⟩⟩ (fun q hq => ?_)
  · have n81 : c ≠ 81 := fun e => by subst e; revert hc; decide
    rw [x3 c n81, up, if_neg (row_out hl (by decide) hc)]
  · obtain ⟨w1, N, w2, w3, w4⟩ := r15 q hq
    have A : ∀ m, m < 60 → g'.2.1 (32 + q) m = if q = l ∧ j ≤ m ∧ m < j + n then h.2.1 (32 + k) (i + (m - j)) else h.2.1 (32 + q) m := by
      intro m hm
      rw [x3 _ (by omega), up]
      by_cases z : q = l
      · subst z
        rw [if_pos rfl]
        unfold va_cpy
        by_cases z2 : j ≤ m ∧ m < j + n
        · rw [if_pos z2, if_pos ⟨rfl, z2⟩]
        · rw [if_neg z2, if_neg (fun z3 => z2 z3.2)]
      · rw [if_neg (by omega), if_neg (fun z3 => z z3.1)]
    have B : ∀ m, m < 60 → g'.2.1 81 (60 * q + m) = if q = l ∧ j ≤ m ∧ m < j + n then h.2.1 81 (60 * k + (i + (m - j))) else h.2.1 81 (60 * q + m) := by
      intro m hm
      rw [y81]
      unfold va_cpy
      by_cases z : q = l ∧ j ≤ m ∧ m < j + n
      · rw [if_pos z, if_pos (by omega)]
        refine congrArg (h.2.1 81) ?_
        omega
      · rw [if_neg z, if_neg (by omega)]
    refine ⟨?_, N, w2, by rw [y1]; exact w3, by rw [y1]; exact w4⟩
    unfold ShAt
    rw [y1]
    rcases w1 with ⟨q1, q2⟩ | ⟨q1, d, q2, q3, q4⟩ | ⟨t2, q1, q2, q3, q4, q5⟩
    · exact Or.inl ⟨q1, q2⟩
    · exact Or.inr (Or.inl ⟨q1, d, q2, q3, q4⟩)
    · refine Or.inr (Or.inr ⟨t2, q1, q2, q3, fun m hm => ?_, fun e1 m hm => ?_⟩)
      · rw [A m hm, B m hm]
        split
        · exact a1 _ (by omega)
        · exact q4 m hm
      · rw [A m hm]
        by_cases z : q = l ∧ j ≤ m ∧ m < j + n
        · rw [if_pos z]
          refine a2 ?_ _ (by omega)
          rw [z.1, l39] at q2
          have := nI_inj (by omega) (by omega) q2
          omega
        · rw [if_neg z]; exact q5 e1 m hm
theorem a_shift (v w u y z : Int32) (h : Hp) (R : Rel h) : Ag (f_X7_shift v w u y z h) (f_X8_shift v w u y z) := by
  have R0 := R
  obtain ⟨f, s, φ, b, R0A⟩ := R
  obtain ⟨⟨r1, r2, r3, r4⟩, ⟨r5, r6, r7, r8⟩, ⟨r9, r10⟩, r11, r12, r13, r14, r15, r16⟩ := id R0A
  have n10 : ¬ (1 : Int32) = 0 := by decide
  have hb := r16.1
  rcases shelf_c v with ⟨k, hk, rfl, e1, e2⟩ | ⟨e1, e2⟩
  rotate_left
  · refine ag_same R0 (v := -1) ?_ ?_
    · unfold f_X7_shift; rw [e1]; rfl
    · unfold f_X8_shift; rw [e2]; rfl
  rcases shelf_c u with ⟨l, hl, rfl, e3, e4⟩ | ⟨e3, e4⟩
  rotate_left
  · refine ag_same R0 (v := -1) ?_ ?_
    · unfold f_X7_shift; rw [e1]; simp only [Option.bind_some, if_neg n10]; rw [e3]; rfl
    · unfold f_X8_shift; rw [e2]; simp only [Option.bind_some, if_neg n10]; rw [e4]; rfl
  obtain ⟨w1, N, w2, w3, w4⟩ := r15 k hk
  obtain ⟨x1, M, x2, x3, x4⟩ := r15 l hl
  have H7 : f_X7_shift (nI k) w (nI l) y z h = (f_X6_isEmpty (nI k) h).bind fun r5 => if r5 = 0 then (f_X6_isEmpty (nI l) h).bind fun r7 => if r7 = 0 then (f_X6_areAlike (nI k) (nI l) h).bind fun r9 => if r9 = 0 then some ((-12), h) else (f_X6_hasPart (nI k) w z h).bind fun r11 => if r11 = 0 then some ((-13), h) else (f_X6_hasPart (nI l) y z h).bind fun r13 => if r13 = 0 then some ((-13), h) else (f_X6_copyPart (nI k) w (nI l) y z h).bind fun r15 => some (z, r15) else some ((-11), h) else some ((-11), h) := by
    unfold f_X7_shift; rw [e1]; simp only [Option.bind_some, if_neg n10]; rw [e3]; simp only [Option.bind_some, if_neg n10]
  rcases shf_c hb hk w1 with ⟨c1, c2⟩ | ⟨c1, c2, c3⟩
  · refine ag_same R0 (v := -11) ?_ ?_
    · rw [H7, c1]; rfl
    · unfold f_X8_shift; rw [e2]; simp only [Option.bind_some, if_neg n10]; rw [e4]; simp only [Option.bind_some, if_neg n10]; rw [rd_79 hk, c2]; rfl
  rcases shf_c hb hl x1 with ⟨d1, d2⟩ | ⟨d1, d2, d3⟩
  · refine ag_same R0 (v := -11) ?_ ?_
    · rw [H7, c1]; simp only [Option.bind_some, if_pos]; rw [d1]; rfl
    · unfold f_X8_shift; rw [e2]; simp only [Option.bind_some, if_neg n10]; rw [e4]; simp only [Option.bind_some, if_neg n10]; rw [rd_79 hk]; simp only [Option.bind_some, if_neg c2]; rw [rd_79 hl, d2]; rfl
  rw [H7, c1, d1]
  simp only [Option.bind_some, if_pos]
  rcases c3 with ⟨c4, c5⟩ | ⟨t, ht, c4, c5, c6⟩
  · refine ag_same R0 (v := -12) ?_ ?_
    · unfold f_X6_areAlike; rw [rd_39 hk, c4]; rfl
    · unfold f_X8_shift; rw [e2]; simp only [Option.bind_some, if_neg n10]; rw [e4]; simp only [Option.bind_some, if_neg n10]; rw [rd_79 hk]; simp only [Option.bind_some, if_neg c2]; rw [rd_79 hl]; simp only [Option.bind_some, if_neg d2]; rw [c5]; rfl
  have hs5 : f_X6_isSort (nI t) = some 1 := by
    unfold f_X6_isSort
    rw [if_neg (nI_pos (by omega)), if_neg (by rw [nl5, nI_leI (by decide) (by omega)]; omega)]
  have hal : f_X6_areAlike (nI k) (nI l) h = if nI t = h.1 39 l then some 1 else some 0 := by
    unfold f_X6_areAlike; rw [rd_39 hk, c4]; simp only [Option.bind_some]; rw [hs5]; simp only [Option.bind_some, if_neg n10]; rw [rd_39 hl]; rfl
  rw [hal]
  rcases d3 with ⟨d4, d5⟩ | ⟨t', ht', d4, d5, d6⟩
  · refine ag_same R0 (v := -12) ?_ ?_
    · rw [d4, if_neg (nI_m2 (by omega))]; rfl
    · unfold f_X8_shift; rw [e2]; simp only [Option.bind_some, if_neg n10]; rw [e4]; simp only [Option.bind_some, if_neg n10]; rw [rd_79 hk]; simp only [Option.bind_some, if_neg c2]; rw [rd_79 hl]; simp only [Option.bind_some, if_neg d2]; rw [c6]; simp only [Option.bind_some, if_neg n10]; rw [d5]; rfl
  have H8 : ∀ g : Hp, g.1 = h.1 → f_X8_shift (nI k) w (nI l) y z g = if nI t = nI t' then (if z < 0 then some ((-13), g) else if w < 0 then some ((-13), g) else if y < 0 then some ((-13), g) else if 0 < (lg_cmp (w.toInt64 + z.toInt64) (nI N).toInt64) then some ((-13), g) else if (lg_cmp (y.toInt64 + z.toInt64) (nI M).toInt64) ≤ 0 then (if nI k = nI l then (if y ≤ w then j_X8_shift_185 (nI k) w (nI l) y z g else (iter (b_X8_shift_142 (nI k) w (nI l) y z) FU (z - 1, g)).bind fun a32 => some (z, a32.2)) else j_X8_shift_185 (nI k) w (nI l) y z g) else some ((-13), g)) else some ((-12), g) := by
    intro g hg
    have hr : ∀ q, f_X8_isRow q g = f_X8_isRow q h := fun q => by unfold f_X8_isRow rdI; rw [hg]
    unfold f_X8_shift; rw [e2]; simp only [Option.bind_some, if_neg n10]; rw [e4]; simp only [Option.bind_some, if_neg n10]; rw [rd_79 hk, hg]; simp only [Option.bind_some, if_neg c2]; rw [rd_79 hl, hg]; simp only [Option.bind_some, if_neg d2]; rw [hr, hr, c6]; simp only [Option.bind_some, if_neg n10]; rw [d6]; simp only [Option.bind_some, if_neg n10]; rw [c5, d5, rd_80 hk, rd_80 hl, hg, w4, x4]; rfl
  by_cases tt : t = t'
  rotate_left
  · refine ag_same R0 (v := -12) ?_ ?_
    · rw [d4, if_neg (fun e => tt (nI_inj (by omega) (by omega) e))]; rfl
    · rw [H8 h rfl, if_neg (fun e => tt (nI_inj (by omega) (by omega) e))]
  subst tt
  rw [d4, if_pos rfl]
  simp only [Option.bind_some, if_neg n10]
  rcases parts_c hk hl w3 w4 w2 x3 x4 x2 w y z with ⟨i, j, n, rfl, rfl, rfl, p1, p2, p3, p4⟩ | ⟨p1, p2⟩
  rotate_left
  · refine ag_same R0 (v := -13) ?_ ?_
    · rcases p1 with p1 | ⟨p1, p3⟩
      · rw [p1]; rfl
      · rw [p1, p3]; rfl
    · rw [H8 h rfl, if_pos rfl]
      by_cases q1 : z < 0
      · rw [if_pos q1]
      by_cases q2 : w < 0
      · rw [if_neg q1, if_pos q2]
      by_cases q3 : y < 0
      · rw [if_neg q1, if_neg q2, if_pos q3]
      rw [if_neg q1, if_neg q2, if_neg q3]
      rcases p2 with q | q | q | ⟨i, j, n, hi, hj, hn, rfl, rfl, rfl, p5⟩
      · exact absurd q q1
      · exact absurd q q2
      · exact absurd q q3
      · by_cases q4 : N < i + n
        · rw [if_pos ((s64_c hi hn (by omega)).1.mpr q4)]
        · rw [if_neg (fun x => q4 ((s64_c hi hn (by omega)).1.mp x)), if_neg (fun x => by have := (s64_c hj hn (by omega)).2.mp x; omega)]
  rw [p3]
  simp only [Option.bind_some, if_neg n10]
  rw [p4]
  simp only [Option.bind_some, if_neg n10]
  have h7 : f_X6_copyPart (nI k) (nI i) (nI l) (nI j) (nI n) h = some (upL h (32 + l) (va_cpy (h.2.1 (32 + k)) (h.2.1 (32 + l)) i j n)) := by
    unfold f_X6_copyPart
    rw [row_at hk, row_at hl]
    simp only [Option.bind_some]
    rw [cpL_n (by rw [row_sz hk]; decide) (by rw [row_sz hl]; decide) (by rw [row_sz hk]; omega) (by rw [row_sz hl]; omega) (by rw [row_sz hk]; decide) (by rw [row_sz hl]; decide)]
    rfl
  rw [h7]
  refine ⟨_, rfl, ?_⟩
  simp only
  rw [H8 (upL h (32 + l) (va_cpy (h.2.1 (32 + k)) (h.2.1 (32 + l)) i j n)) rfl, if_pos rfl, if_neg (nI_pos (by omega)), if_neg (nI_pos (by omega)), if_neg (nI_pos (by omega)), if_neg (fun x => by have := (s64_c (by omega) (by omega) (by omega)).1.mp x; omega), if_pos ((s64_c (by omega) (by omega) (by omega)).2.mpr p2)]
  have go : ∀ o : Option (Int32 × Hp), Ev o (fun s' => s'.2.1 = h.1 ∧ s'.2.2.2 = h.2.2 ∧ (∀ c, c ≠ 81 → s'.2.2.1 c = (upL h (32 + l) (va_cpy (h.2.1 (32 + k)) (h.2.1 (32 + l)) i j n)).2.1 c) ∧ s'.2.2.1 81 = va_cpy ((upL h (32 + l) (va_cpy (h.2.1 (32 + k)) (h.2.1 (32 + l)) i j n)).2.1 81) ((upL h (32 + l) (va_cpy (h.2.1 (32 + k)) (h.2.1 (32 + l)) i j n)).2.1 81) (60 * k + i) (60 * l + j) n) → Ev (o.bind fun a32 => some (nI n, a32.2)) (fun t => nI n = t.1 ∧ Rel t.2) := by
    intro o ho
    refine ev_call ho (fun v hv => ev_some ⟨rfl, f, s, φ, b, ?_⟩)
    exact shift_rel R0A hk hl (by omega) (by omega) ht c4 d4 rfl hv.1 hv.2.1 hv.2.2.1 hv.2.2.2
  by_cases kl : k = l
  · subst kl
    rw [if_pos rfl]
    by_cases ij : j ≤ i
    · rw [if_pos (nI_le ij (by omega))]
      exact go _ (up_m hk hk (by omega) (by omega) (Or.inr ij) _)
    · rw [if_neg (by rw [nI_leI (by omega) (by omega)]; exact ij)]
      exact go _ (dn_m hk (by omega) (by omega) (by omega) _)
  · rw [if_neg (fun e => kl (nI_inj (by omega) (by omega) e))]
    exact go _ (up_m hk hl (by omega) (by omega) (Or.inl kl) _)
