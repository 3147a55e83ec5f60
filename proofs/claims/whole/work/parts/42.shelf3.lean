theorem place_c {b k n : Nat} {h : Hp} (hb : b ≤ 50) (hk : k < 6) (S : ShAt b h k) (hn : n ≤ 60) (h38 : h.1 38 k = nI n) (w : Int32) : (h.1 79 k = -1 ∧ f_X7_placeRefusal (nI k) w h = some (-11)) ∨ (∃ d, d < b ∧ h.1 79 k = nI (10 + d) ∧ f_X7_placeRefusal (nI k) w h = some (-12)) ∨ (∃ t, t < 5 ∧ h.1 39 k = nI t ∧ h.1 79 k = nI t ∧ ((∃ j, j < n ∧ w = nI j ∧ f_X7_placeRefusal (nI k) w h = some 0 ∧ f_X8_within w 0 (nI n - 1) = some 1) ∨ (f_X7_placeRefusal (nI k) w h = some (-13) ∧ f_X8_within w 0 (nI n - 1) = some 0))) := by
  have n10 : ¬ (1 : Int32) = 0 := by decide
  have e1 : f_X6_isShelf (nI k) = some 1 := by
    unfold f_X6_isShelf
    rw [if_neg (nI_pos (by omega)), if_neg (by rw [nl6, nI_leI (by decide) (by omega)]; omega)]
  unfold f_X7_placeRefusal f_X6_isEmpty f_X6_isDoor
  rw [e1]
  simp only [Option.bind_some, if_neg n10]
  rw [rd_39 hk]
  simp only [Option.bind_some]
  rcases S with ⟨q1, q2⟩ | ⟨q1, d, q2, q3, q4⟩ | ⟨t, q1, q2, q3, q4, q5⟩
  · left
    refine ⟨q2, ?_⟩
    rw [q1]; rfl
  · right; left
    refine ⟨d, q2, q4, ?_⟩
    rw [q1]; rfl
  · right; right
    refine ⟨t, q1, q2, q3, ?_⟩
    rw [q2, if_neg (nI_m1 (by omega)), if_neg (nI_m2 (by omega))]
    simp only [Option.bind_some, if_true]
    unfold f_X6_hasPart
    rcases i32_split w with ⟨j, hj, rfl⟩ | ha
    · rw [if_neg (nI_pos hj), if_neg (by decide), rd_38 hk, h38]
      simp only [Option.bind_some]
      by_cases z : j < n
      · left
        refine ⟨j, z, rfl, ?_, within_p1 z (by omega)⟩
        rw [nl1, if_neg (nI_nlt (by omega) (by omega)), nI_sub (by omega), if_neg (nI_nlt (by omega) (by omega))]
        rfl
      · right
        refine ⟨?_, within_p0 (by omega) hj⟩
        by_cases z1 : n < 1
        · rw [nl1, if_pos (nI_lt z1 (by decide))]; rfl
        · rw [nl1, if_neg (nI_nlt (by omega) (by omega)), nI_sub (by omega), if_pos (nI_lt (by omega) hj)]; rfl
    · right
      refine ⟨?_, by rw [nl0, within_neg ha (by decide)]; rfl⟩
      rw [if_pos ha]; rfl
theorem a_element (v w : Int32) (h : Hp) (R : Rel h) : Ev (f_X7_element v w h) fun r => Ev (f_X8_element v w h) fun t => r = t := by
  obtain ⟨f, s, φ, b, ⟨r1, r2, r3, r4⟩, ⟨r5, r6, r7, r8⟩, ⟨r9, r10⟩, r11, r12, r13, r14, r15, r16⟩ := R
  have n10 : ¬ (1 : Int32) = 0 := by decide
  have hb := r16.1
  unfold f_X7_element f_X8_element f_X8_isRow
  rcases shelf_c v with ⟨k, hk, rfl, e1, e2⟩ | ⟨e1, e2⟩
  · rw [e2]
    simp only [Option.bind_some, if_neg n10]
    rw [rd_79 hk, rd_80 hk]
    simp only [Option.bind_some]
    obtain ⟨w1, n, w2, w3, w4⟩ := r15 k hk
    rw [w4]
    rcases place_c hb hk w1 w2 w3 w with ⟨p1, p2⟩ | ⟨d, p0, p1, p2⟩ | ⟨t, p0, p1, p2, p3⟩
    · rw [p1, p2]
      exact ⟨_, rfl, _, rfl, rfl⟩
    · rw [p1, p2, nl0, nl4, within_out (by omega) (by omega) (by decide) (by decide)]
      exact ⟨_, rfl, _, rfl, rfl⟩
    · rw [p2, show f_X8_within (nI t) 0 4 = some 1 from within_in (Nat.zero_le t) (show t ≤ 4 by omega) (by decide)]
      simp only [Option.bind_some, if_neg n10]
      rcases p3 with ⟨j, g1, rfl, g2, g3⟩ | ⟨g2, g3⟩
      · rw [g2, g3]
        simp only [Option.bind_some, if_neg n10]
        unfold f_X6_valueAt
        rw [if_pos trivial, row_at hk]
        simp only [Option.bind_some]
        rw [rdL_n (by rw [row_sz hk]; omega) (by rw [row_sz hk]; decide), nl60, nI_mul, nI_add, rd_81 (by omega)]
        refine ⟨_, rfl, _, rfl, ?_⟩
        rcases w1 with ⟨q1, q2⟩ | ⟨q1, d, q2, q3, q4⟩ | ⟨t', q1, q2, q3, q4, q5⟩
        · rw [p1] at q1; exact absurd q1 (nI_m1 (by omega))
        · rw [p1] at q1; exact absurd q1 (nI_m2 (by omega))
        · exact q4 j (by omega)
      · rw [g2, g3]
        exact ⟨_, rfl, _, rfl, rfl⟩
  · rw [e2]
    unfold f_X7_placeRefusal
    rw [e1]
    exact ⟨_, rfl, _, rfl, rfl⟩
/-- one value is stored on both sides -/
theorem a_put (v w : Int32) (u : Int64) (h : Hp) (R : Rel h) : Ag (f_X7_put v w u h) (f_X8_put v w u) := by
  have R0 := R
  obtain ⟨f, s, φ, b, R0A⟩ := R
  obtain ⟨⟨r1, r2, r3, r4⟩, ⟨r5, r6, r7, r8⟩, ⟨r9, r10⟩, r11, r12, r13, r14, r15, r16⟩ := id R0A
  have n10 : ¬ (1 : Int32) = 0 := by decide
  have hb := r16.1
  rcases shelf_c v with ⟨k, hk, rfl, e1, e2⟩ | ⟨e1, e2⟩
  · obtain ⟨w1, n, w2, w3, w4⟩ := r15 k hk
    rcases place_c hb hk w1 w2 w3 w with ⟨p1, p2⟩ | ⟨d, p0, p1, p2⟩ | ⟨t, p0, p1, p2, p3⟩
    · refine ag_same R0 (v := -11) ?_ ?_
      · unfold f_X7_put; rw [p2]; rfl
      · unfold f_X8_put; rw [e2]; simp only [Option.bind_some, if_neg n10]; rw [rd_79 hk, p1]; rfl
    · refine ag_same R0 (v := -12) ?_ ?_
      · unfold f_X7_put; rw [p2]; rfl
      · unfold f_X8_put f_X8_isRow; rw [e2]; simp only [Option.bind_some, if_neg n10]; rw [rd_79 hk, p1]
        simp only [Option.bind_some]
        rw [if_neg (nI_m1 (by omega)), nl0, nl4, within_out (by omega) (by omega) (by decide) (by decide)]; rfl
    · rcases p3 with ⟨j, g1, rfl, g2, g3⟩ | ⟨g2, g3⟩
      · obtain ⟨y, y1, y2, y3⟩ := cut_c p0 u
        unfold Ag f_X7_put f_X6_store
        rw [g2]
        simp only [Option.bind_some]
        rw [if_pos trivial, row_at hk]
        simp only [Option.bind_some]
        rw [rd_39 hk, p1]
        simp only [Option.bind_some]
        rw [y1]
        simp only [Option.bind_some]
        rw [wrL_n (by rw [row_sz hk]; omega) (by rw [row_sz hk]; decide)]
        refine ⟨_, rfl, ?_⟩
        simp only
        unfold f_X8_put f_X8_isRow
        rw [e2]
        simp only [Option.bind_some, if_neg n10]
        rw [rd_79 hk]
        simp only [Option.bind_some]
        rw [show (stL h (32 + k) j y).1 79 k = nI t from p2, if_neg (nI_m1 (by omega)), show f_X8_within (nI t) 0 4 = some 1 from within_in (Nat.zero_le t) (show t ≤ 4 by omega) (by decide)]
        simp only [Option.bind_some, if_neg n10]
        rw [rd_80 hk]
        simp only [Option.bind_some]
        rw [show (stL h (32 + k) j y).1 80 k = nI n from w4, g3]
        simp only [Option.bind_some, if_neg n10]
        rw [y2]
        simp only [Option.bind_some]
        rw [nl60, nI_mul, nI_add, wr_81 (by omega)]
        refine ⟨_, rfl, rfl, f, s, φ, b, R0A.shv ?_ (fun i hi => ?_)⟩
        · refine ((Kp.refl r1).sl ?_).sl (by decide)
          cases e : List.contains [32, 33, 34, 35, 36, 37, 38, 39, 40, 79, 80, 81] (32 + k) with
          | true => rfl
          | false => exact absurd rfl (row_out hk (by decide) e)
        · obtain ⟨u1, n', u2, u3, u4⟩ := r15 i hi
          refine ⟨?_, n', u2, u3, u4⟩
          have h1 : ∀ m, m < 60 → (stL (stL h (32 + k) j y) 81 (60 * k + j) y).2.1 (32 + i) m = if i = k ∧ m = j then y else h.2.1 (32 + i) m := by
            intro m hm
            rw [stL_at, if_neg (by omega), stL_at]
            by_cases z : i = k
            · subst z
              rw [if_pos rfl]
              by_cases z2 : m = j
              · rw [if_pos z2, if_pos ⟨rfl, z2⟩]
              · rw [if_neg z2, if_neg (fun q => z2 q.2)]
            · rw [if_neg (by omega), if_neg (fun q => z q.1)]
          have h2 : ∀ m, m < 60 → (stL (stL h (32 + k) j y) 81 (60 * k + j) y).2.1 81 (60 * i + m) = if i = k ∧ m = j then y else h.2.1 81 (60 * i + m) := by
            intro m hm
            rw [stL_at, if_pos rfl]
            by_cases z : i = k ∧ m = j
            · rw [if_pos z, if_pos (by rw [z.1, z.2])]
            · rw [if_neg z, if_neg (by omega), stL_at, if_neg (by omega)]
          rcases u1 with q | q | ⟨t', q1, q2, q3, q4, q5⟩
          · exact Or.inl q
          · exact Or.inr (Or.inl q)
          · refine Or.inr (Or.inr ⟨t', q1, q2, q3, fun m hm => ?_, fun e m hm => ?_⟩)
            · rw [h1 m hm, h2 m hm]
              split
              · rfl
              · exact q4 m hm
            · rw [h1 m hm]
              by_cases z : i = k ∧ m = j
              · rw [if_pos z]
                refine y3 ?_
                rw [z.1, p1] at q2
                have := nI_inj (by omega) (by omega) q2
                omega
              · rw [if_neg z]; exact q5 e m hm
      · refine ag_same R0 (v := -13) ?_ ?_
        · unfold f_X7_put; rw [g2]; rfl
        · unfold f_X8_put f_X8_isRow; rw [e2]; simp only [Option.bind_some, if_neg n10]; rw [rd_79 hk, p2]
          simp only [Option.bind_some]
          rw [if_neg (nI_m1 (by omega)), show f_X8_within (nI t) 0 4 = some 1 from within_in (Nat.zero_le t) (show t ≤ 4 by omega) (by decide)]
          simp only [Option.bind_some, if_neg n10]
          rw [rd_80 hk, w4]
          simp only [Option.bind_some]
          rw [g3]; rfl
  · refine ag_same R0 (v := -1) ?_ ?_
    · unfold f_X7_put f_X7_placeRefusal; rw [e1]; rfl
    · unfold f_X8_put; rw [e2]; rfl
