theorem bI_if (b : Bool) : (if nI (bI b) = 0 then some (0 : Int32) else some 1) = some (nI (bI b)) := by cases b <;> rfl
theorem a_of (v w : Int32) (h : Hp) (R : Rel h) : Ev (f_X7_of v w h) fun r => Ev (f_X8_of v w h) fun t => r = t := by
  obtain ⟨f, s, φ, b, ⟨r1, r2, r3, r4⟩, ⟨r5, r6, r7, r8⟩, _⟩ := R
  have hp := r3.1
  have hw := r3.2.1
  have n10 : ¬ (1 : Int32) = 0 := by decide
  by_cases q0 : w = 0
  · subst q0
    unfold f_X7_of f_X8_of f_X7_isThere f_X8_isOf
    rw [show f_X8_within 0 7 8 = some 0 by decide, if_pos rfl]
    simp only [Option.bind_some, if_true]
    rcases house_c v with ⟨n, hn, rfl, e1, e2⟩ | ⟨e1, e2⟩
    · rw [e1, e2]
      simp only [Option.bind_some, if_neg n10]
      unfold f_X7_valueOf f_X8_get
      rw [if_pos rfl, if_pos rfl, rd_14 hn, rd_54 hn, r7.n13 hn, r8.1 n hn]
      exact ⟨_, rfl, _, rfl, rfl⟩
    · rw [e1, e2]
      exact ⟨_, rfl, _, rfl, rfl⟩
  by_cases q1 : w = 1
  · subst q1
    unfold f_X7_of f_X8_of f_X7_isThere f_X8_isOf
    rw [show f_X8_within 1 7 8 = some 0 by decide, if_neg (by decide), if_pos rfl]
    simp only [Option.bind_some, if_true, if_neg n10, show f_X8_within 1 1 2 = some 1 by decide]
    rcases one_c r3 r5 r6 v with ⟨n, hn, rfl, e1, e2⟩ | ⟨e1, e2⟩
    · rw [e1, e2]
      simp only [Option.bind_some, if_neg n10]
      unfold f_X7_valueOf f_X8_get
      rw [if_neg (by decide), if_pos rfl, if_neg (by decide), if_pos rfl, rd_2 (by omega), rd_55 (by omega), (r5.2.2.1 n hn).1, (r6.2.2.1 n hn).1]
      exact ⟨_, rfl, _, rfl, rfl⟩
    · rw [e1, e2]
      exact ⟨_, rfl, _, rfl, rfl⟩
  by_cases q2 : w = 2
  · subst q2
    unfold f_X7_of f_X8_of f_X7_isThere f_X8_isOf
    rw [show f_X8_within 2 7 8 = some 0 by decide, if_neg (by decide), if_neg (by decide), if_pos rfl]
    simp only [Option.bind_some, if_true, if_neg n10, if_neg (show ¬ (2 : Int32) = 0 by decide), show f_X8_within 2 1 2 = some 1 by decide]
    rcases one_c r3 r5 r6 v with ⟨n, hn, rfl, e1, e2⟩ | ⟨e1, e2⟩
    · rw [e1, e2]
      simp only [Option.bind_some, if_neg n10]
      unfold f_X7_valueOf f_X8_get
      rw [if_neg (by decide), if_neg (by decide), if_pos rfl, if_neg (by decide), if_neg (by decide), if_pos rfl, rd_3 (by omega), rd_56 (by omega), (r5.2.2.1 n hn).2, (r6.2.2.1 n hn).2]
      exact ⟨_, rfl, _, rfl, rfl⟩
    · rw [e1, e2]
      exact ⟨_, rfl, _, rfl, rfl⟩
  by_cases q3 : w = 3
  · subst q3
    unfold f_X7_of f_X8_of f_X7_isThere f_X8_isOf
    rw [show f_X8_within 3 7 8 = some 0 by decide, if_neg (by decide), if_neg (by decide), if_neg (by decide), if_pos rfl]
    simp only [Option.bind_some, if_true, if_neg n10, if_neg (show ¬ (3 : Int32) = 0 by decide), show f_X8_within 3 1 2 = some 0 by decide, show f_X8_within 3 3 5 = some 1 by decide]
    rcases wrong_c r3 r5 r6 v with ⟨n, hn, rfl, e1, e2⟩ | ⟨e1, e2⟩
    · rw [e1, e2]
      simp only [Option.bind_some, if_neg n10]
      unfold f_X7_valueOf f_X8_get
      rw [if_neg (by decide), if_neg (by decide), if_neg (by decide), if_pos rfl, if_neg (by decide), if_neg (by decide), if_neg (by decide), if_pos rfl, rd_6 (by omega), rd_59 (by omega), (r5.2.2.2 n hn).2.2, (r6.2.2.2 n hn).2.2]
      exact ⟨_, rfl, _, rfl, rfl⟩
    · rw [e1, e2]
      exact ⟨_, rfl, _, rfl, rfl⟩
  by_cases q4 : w = 4
  · subst q4
    unfold f_X7_of f_X8_of f_X7_isThere f_X8_isOf
    rw [show f_X8_within 4 7 8 = some 0 by decide, if_neg (by decide), if_neg (by decide), if_neg (by decide), if_neg (by decide), if_pos rfl]
    simp only [Option.bind_some, if_true, if_neg n10, if_neg (show ¬ (4 : Int32) = 0 by decide), show f_X8_within 4 1 2 = some 0 by decide, show f_X8_within 4 3 5 = some 1 by decide]
    rcases wrong_c r3 r5 r6 v with ⟨n, hn, rfl, e1, e2⟩ | ⟨e1, e2⟩
    · rw [e1, e2]
      simp only [Option.bind_some, if_neg n10]
      unfold f_X7_valueOf f_X8_get
      rw [if_neg (by decide), if_neg (by decide), if_neg (by decide), if_neg (by decide), if_pos rfl, if_neg (by decide), if_neg (by decide), if_neg (by decide), if_neg (by decide), if_pos rfl, rd_15 (by omega), rd_60 (by omega), r7.d13 hn, r8.2.1 n hn]
      exact ⟨_, rfl, _, rfl, rfl⟩
    · rw [e1, e2]
      exact ⟨_, rfl, _, rfl, rfl⟩
  by_cases q5 : w = 5
  · subst q5
    unfold f_X7_of f_X8_of f_X7_isThere f_X8_isOf
    rw [show f_X8_within 5 7 8 = some 0 by decide, if_neg (by decide), if_neg (by decide), if_neg (by decide), if_neg (by decide), if_neg (by decide), if_pos rfl]
    simp only [Option.bind_some, if_true, if_neg n10, if_neg (show ¬ (5 : Int32) = 0 by decide), show f_X8_within 5 1 2 = some 0 by decide, show f_X8_within 5 3 5 = some 1 by decide]
    rcases wrong_c r3 r5 r6 v with ⟨n, hn, rfl, e1, e2⟩ | ⟨e1, e2⟩
    · rw [e1, e2]
      simp only [Option.bind_some, if_neg n10]
      unfold f_X7_valueOf f_X8_get
      rw [if_neg (by decide), if_neg (by decide), if_neg (by decide), if_neg (by decide), if_neg (by decide), if_pos rfl, if_neg (by decide), if_neg (by decide), if_neg (by decide), if_neg (by decide), if_neg (by decide), if_pos rfl, isForg_x ok13 hw r7 hn, rd_61 (by omega), r8.2.2.1 n hn]
      simp only [Option.bind_some, bI_if]
      exact ⟨_, rfl, _, rfl, rfl⟩
    · rw [e1, e2]
      exact ⟨_, rfl, _, rfl, rfl⟩
  by_cases q6 : w = 6
  · subst q6
    unfold f_X7_of f_X8_of f_X7_isThere f_X8_isOf
    rw [show f_X8_within 6 7 8 = some 0 by decide, if_neg (by decide), if_neg (by decide), if_neg (by decide), if_neg (by decide), if_neg (by decide), if_neg (by decide), if_pos rfl]
    simp only [Option.bind_some, if_true, if_neg n10, if_neg (show ¬ (6 : Int32) = 0 by decide), show f_X8_within 6 1 2 = some 0 by decide, show f_X8_within 6 3 5 = some 0 by decide]
    by_cases z : v = 0
    · rw [if_pos z]
      simp only [Option.bind_some, if_neg n10]
      unfold f_X7_valueOf f_X8_get
      rw [if_neg (by decide), if_neg (by decide), if_neg (by decide), if_neg (by decide), if_neg (by decide), if_neg (by decide), if_pos rfl, if_neg (by decide), if_neg (by decide), if_neg (by decide), if_neg (by decide), if_neg (by decide), if_neg (by decide), r7.2.2.2, r8.2.2.2]
      exact ⟨_, rfl, _, rfl, rfl⟩
    · rw [if_neg z]
      exact ⟨_, rfl, _, rfl, rfl⟩
  by_cases q7 : w = 7
  · subst q7
    unfold f_X7_of f_X8_of f_X7_isThere
    rw [show f_X8_within 7 7 8 = some 1 by decide, if_neg (by decide), if_neg (by decide), if_neg (by decide), if_neg (by decide), if_neg (by decide), if_neg (by decide), if_neg (by decide), if_pos rfl]
    simp only [Option.bind_some, if_neg n10]
    rcases wrong_c r3 r5 r6 v with ⟨n, hn, rfl, e1, e2⟩ | ⟨e1, e2⟩
    · rw [e1, e2]
      simp only [Option.bind_some, if_neg n10]
      unfold f_X7_valueOf
      rw [if_neg (by decide), if_neg (by decide), if_neg (by decide), if_neg (by decide), if_neg (by decide), if_neg (by decide), if_neg (by decide), if_pos rfl, if_pos trivial, rd_4 (by omega), rd_57 (by omega), (r5.2.2.2 n hn).1, (r6.2.2.2 n hn).1]
      exact ⟨_, rfl, _, rfl, rfl⟩
    · rw [e1, e2]
      exact ⟨_, rfl, _, rfl, rfl⟩
  by_cases q8 : w = 8
  · subst q8
    unfold f_X7_of f_X8_of f_X7_isThere
    rw [show f_X8_within 8 7 8 = some 1 by decide, if_neg (by decide), if_neg (by decide), if_neg (by decide), if_neg (by decide), if_neg (by decide), if_neg (by decide), if_neg (by decide), if_neg (by decide), if_pos rfl]
    simp only [Option.bind_some, if_neg n10]
    rcases wrong_c r3 r5 r6 v with ⟨n, hn, rfl, e1, e2⟩ | ⟨e1, e2⟩
    · rw [e1, e2]
      simp only [Option.bind_some, if_neg n10]
      unfold f_X7_valueOf
      rw [if_neg (by decide), if_neg (by decide), if_neg (by decide), if_neg (by decide), if_neg (by decide), if_neg (by decide), if_neg (by decide), if_neg (by decide), if_neg (by decide), rd_5 (by omega), rd_58 (by omega), (r5.2.2.2 n hn).2.1, (r6.2.2.2 n hn).2.1]
      exact ⟨_, rfl, _, rfl, rfl⟩
    · rw [e1, e2]
      exact ⟨_, rfl, _, rfl, rfl⟩
  have ho : ∀ lo hi : Nat, 1 ≤ lo → hi ≤ 8 → (lo ≤ hi) → (lo = 7 ∧ hi = 8 ∨ lo = 1 ∧ hi = 2 ∨ lo = 3 ∧ hi = 5) → f_X8_within w (nI lo) (nI hi) = some 0 := by
    intro lo hi _ _ _ hh
    rcases i32_split w with ⟨n, hn, rfl⟩ | ha
    · have : ∀ k, k < 9 → n ≠ k := by
        intro k hk e
        subst e
        match n, hk with
        | 0, _ => exact q0 rfl
        | 1, _ => exact q1 rfl
        | 2, _ => exact q2 rfl
        | 3, _ => exact q3 rfl
        | 4, _ => exact q4 rfl
        | 5, _ => exact q5 rfl
        | 6, _ => exact q6 rfl
        | 7, _ => exact q7 rfl
        | 8, _ => exact q8 rfl
      have h9 : 8 < n := by
        rcases Nat.lt_or_ge 8 n with q | q
        · exact q
        · exact absurd rfl (this n (by omega))
      exact within_out (by omega) hn (by omega) (by omega)
    · exact within_neg ha (by omega)
  unfold f_X7_of f_X8_of f_X7_isThere f_X8_isOf
  rw [show f_X8_within w 7 8 = some 0 from ho 7 8 (by decide) (by decide) (by decide) (by decide), show f_X8_within w 1 2 = some 0 from ho 1 2 (by decide) (by decide) (by decide) (by decide), show f_X8_within w 3 5 = some 0 from ho 3 5 (by decide) (by decide) (by decide) (by decide)]
  simp only [Option.bind_some, if_neg q0, if_neg q1, if_neg q2, if_neg q3, if_neg q4, if_neg q5, if_neg q6, if_neg q7, if_neg q8, if_true]
  exact ⟨_, rfl, _, rfl, rfl⟩
