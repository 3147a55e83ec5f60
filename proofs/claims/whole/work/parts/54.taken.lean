theorem under_ : ∀ a, a < 8 → ∀ c, c < 8 → (f_X1_isUnder (nI a) (nI c) h00 = some 1 ∧ iter (b_X8_taken_61 (nI c) (nI a) h00) FU (nI a) = some (nI c)) ∨ (f_X1_isUnder (nI a) (nI c) h00 = some 0 ∧ (iter (b_X8_taken_61 (nI c) (nI a) h00) FU (nI a)).elim false (fun e => decide (e ≠ nI c)) = true) := by decide +kernel
theorem under_c {a c : Nat} (ha : a < 8) (hc : c < 8) (h : Hp) : (f_X1_isUnder (nI a) (nI c) h = some 1 ∧ iter (b_X8_taken_61 (nI c) (nI a) h) FU (nI a) = some (nI c)) ∨ (f_X1_isUnder (nI a) (nI c) h = some 0 ∧ ∃ e, iter (b_X8_taken_61 (nI c) (nI a) h) FU (nI a) = some e ∧ e ≠ nI c) := by
  have e1 : f_X1_isUnder (nI a) (nI c) h = f_X1_isUnder (nI a) (nI c) h00 := rfl
  have e2 : b_X8_taken_61 (nI c) (nI a) h = b_X8_taken_61 (nI c) (nI a) h00 := rfl
  rw [e1, e2]
  rcases under_ a ha c hc with q | ⟨q1, q2⟩
  · exact Or.inl q
  · refine Or.inr ⟨q1, ?_⟩
    cases e : iter (b_X8_taken_61 (nI c) (nI a) h00) FU (nI a) with
    | none => rw [e] at q2; cases q2
    | some x => rw [e] at q2; exact ⟨x, rfl, by simpa using q2⟩
theorem a_taken (v w : Int32) (h : Hp) (R : Rel h) : Ev (f_X7_taken v w h) fun r => Ev (f_X8_taken v w h) fun t => r = t := by
  obtain ⟨f, s, φ, b, R0A⟩ := R
  have n10 : ¬ (1 : Int32) = 0 := by decide
  have r15 := R0A.2.2.2.2.2.2.2.1
  obtain ⟨hb, d2, d3, d4, d5⟩ := R0A.2.2.2.2.2.2.2.2
  unfold f_X7_taken f_X8_taken
  rcases shelf_c v with ⟨k, hk, rfl, e1, e2⟩ | ⟨e1, e2⟩
  · rcases kind_c w with ⟨c, hc, rfl, e3, e4⟩ | ⟨e3, e4⟩
    · rw [e1, e2, e3, e4]
      simp only [Option.bind_some, if_neg n10]
      unfold f_X6_isEmpty f_X6_isDoor f_X6_doorOn f_X1_kindOf f_X8_isRow
      rw [rd_39 hk, rd_79 hk, rd_40 hk]
      simp only [Option.bind_some]
      obtain ⟨w1, n, w2, w3, w4⟩ := r15 k hk
      rcases w1 with ⟨q1, q2⟩ | ⟨q1, d, q2, q3, q4⟩ | ⟨t, q1, q2, q3, q4, q5⟩
      · rw [q1, q2]
        exact ⟨_, rfl, _, rfl, rfl⟩
      · obtain ⟨y, y1, y2, y3⟩ := d4 d q2
        rw [q1, q3, q4, if_neg (nI_m1 (by omega)), nl0, nl4, within_out (by omega) (by omega) (by decide) (by decide), nl10, nI_sub (by omega), show 10 + d - 10 = d by omega, rd_42 (by omega), rd_77 (by omega), y2, y3]
        rcases under_c y1 hc h with ⟨u1, u2⟩ | ⟨u1, x, u2, u3⟩
        · refine ⟨nI y, ?_, nI y, ?_, rfl⟩
          · show ((some (nI y)).bind fun r10 => (f_X1_isUnder r10 (nI c) h).bind fun r11 => if r11 = nI 0 then some (-12) else some r10) = _
            simp only [Option.bind_some, u1]
            rfl
          · simp only [Option.bind_some, u2]
            rfl
        · refine ⟨-12, ?_, -12, ?_, rfl⟩
          · show ((some (nI y)).bind fun r10 => (f_X1_isUnder r10 (nI c) h).bind fun r11 => if r11 = nI 0 then some (-12) else some r10) = _
            simp only [Option.bind_some, u1]
            rfl
          · simp only [Option.bind_some, u2, if_neg u3]
            rfl
      · rw [q2, q3, if_neg (nI_m1 (by omega)), if_neg (nI_m2 (by omega)), if_neg (nI_m1 (by omega)), show f_X8_within (nI t) 0 4 = some 1 from within_in (Nat.zero_le t) (show t ≤ 4 by omega) (by decide)]
        exact ⟨_, rfl, _, rfl, rfl⟩
    · rw [e1, e2, e3, e4]
      exact ⟨_, rfl, _, rfl, rfl⟩
  · rw [e1, e2]
    exact ⟨_, rfl, _, rfl, rfl⟩
