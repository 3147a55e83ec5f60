theorem paint_c {b k : Nat} {h : Hp} (hb : b ≤ 50) (hk : k < 6) (S : ShAt b h k) : (f_X6_refusal (nI k) 1 h = some (-11) ∧ f_X8_noCalls (nI k) h = some (-11)) ∨ (f_X6_refusal (nI k) 1 h = some (-12) ∧ f_X8_noCalls (nI k) h = some (-12)) ∨ (f_X6_refusal (nI k) 1 h = some 0 ∧ f_X8_noCalls (nI k) h = some 0 ∧ (∀ j, j < 60 → h.2.1 (32 + k) j = h.2.1 81 (60 * k + j)) ∧ ∀ j, j < 60 → ∃ v : Int32, h.2.1 (32 + k) j = v.toInt64) := by
  unfold f_X6_refusal f_X6_isEmpty f_X6_isRowOf f_X8_noCalls
  rw [rd_39 hk, rd_79 hk]
  simp only [Option.bind_some]
  rcases S with ⟨q1, q2⟩ | ⟨q1, d, q2, q3, q4⟩ | ⟨t, q1, q2, q3, q4, q5⟩
  · left
    rw [q1, q2]
    exact ⟨rfl, rfl⟩
  · right; left
    have hz : ¬ nI (10 + d) = 1 := by rw [nl1, nI_eq (by omega) (by decide)]; omega
    rw [q1, q4, if_neg (nI_m1 (by omega)), if_neg hz]
    exact ⟨rfl, rfl⟩
  · right
    rw [q2, q3, if_neg (nI_m1 (by omega))]
    by_cases z : t = 1
    · right
      subst z
      exact ⟨rfl, rfl, q4, q5 rfl⟩
    · left
      have hz : ¬ nI t = 1 := by rw [nl1, nI_eq (by omega) (by decide)]; exact z
      simp only [Option.bind_some, if_true]
      rw [if_neg hz, if_neg (nI_m1 (by omega)), if_neg hz]
      exact ⟨rfl, rfl⟩
theorem calls_c (a : Int32) : (∃ n, n ≤ 40 ∧ a = nI n ∧ f_X7_isCalls a = some 1 ∧ f_X8_within a 0 40 = some 1) ∨ (f_X7_isCalls a = some 0 ∧ f_X8_within a 0 40 = some 0) := by
  unfold f_X7_isCalls
  rcases i32_split a with ⟨n, hn, rfl⟩ | ha
  · by_cases q : n ≤ 40
    · left
      refine ⟨n, q, rfl, ?_, ?_⟩
      · rw [if_neg (nI_pos hn), if_neg (by rw [nl40]; exact nI_nlt q (by decide))]
      · rw [nl0, nl40, within_in (by omega) (by omega) (by decide)]
    · right
      refine ⟨?_, ?_⟩
      · rw [if_neg (nI_pos hn), if_pos (by rw [nl40]; exact nI_lt (by omega) hn)]
      · rw [nl0, nl40, within_out (by omega) hn (by decide) (by decide)]; rfl
  · right
    refine ⟨by rw [if_pos ha], ?_⟩
    rw [nl0, within_neg ha (by decide)]; rfl
theorem a_later (v w u : Int32) (h : Hp) (R : Rel h) : Ag (f_X7_later v w u h) (f_X8_later v w u) := by
  have R0 := R
  obtain ⟨f, s, φ, b, R0A⟩ := R
  have n10 : ¬ (1 : Int32) = 0 := by decide
  have r15 := R0A.2.2.2.2.2.2.2.1
  have hb := R0A.2.2.2.2.2.2.2.2.1
  rcases shelf_c v with ⟨k, hk, rfl, e1, e2⟩ | ⟨e1, e2⟩
  · rcases calls_c w with ⟨m, hm, rfl, e3, e4⟩ | ⟨e3, e4⟩
    · rcases house_c u with ⟨i, hi, rfl, e5, e6⟩ | ⟨e5, e6⟩
      · obtain ⟨w1, n, w2, w3, w4⟩ := r15 k hk
        rcases paint_c hb hk w1 with ⟨p1, p2⟩ | ⟨p1, p2⟩ | ⟨p1, p2, p3, p4⟩
        · refine ag_same R0 (v := -11) ?_ ?_
          · unfold f_X7_later; rw [e1, e3, e5, p1]; rfl
          · unfold f_X8_later; rw [e2, e4, e6, p2]; rfl
        · refine ag_same R0 (v := -12) ?_ ?_
          · unfold f_X7_later; rw [e1, e3, e5, p1]; rfl
          · unfold f_X8_later; rw [e2, e4, e6, p2]; rfl
        · unfold Ag f_X7_later
          rw [e1, e3, e5]
          simp only [Option.bind_some, if_neg n10]
          rw [p1]
          simp only [Option.bind_some]
          rw [if_pos trivial]
          refine ev_call (think_x R0A hk w2 hm w3 (V := fun j => (h.2.1 (32 + k) j).toInt32) (fun j _ => rfl)) (fun t ht => ?_)
          obtain ⟨t1, t2⟩ := ht
          rw [rd_18 hi, t2.2.n17 hi]
          refine ⟨_, rfl, ?_⟩
          simp only
          have RA := ThX.rel R0A t2
          unfold f_X8_later
          rw [e2, e4, e6]
          simp only [Option.bind_some, if_neg n10]
          have p2' : f_X8_noCalls (nI k) t.2 = some 0 := by
            have : f_X8_noCalls (nI k) t.2 = f_X8_noCalls (nI k) h := by
              unfold f_X8_noCalls
              rw [rd_79 hk, rd_79 hk, t2.1.i 79 (by decide)]
            rw [this, p2]
          rw [p2']
          simp only [Option.bind_some]
          rw [if_pos (by decide)]
          refine ev_call (ThM.start RA (Or.inl rfl)) (fun g hg => ?_)
          refine ev_call (goes_m RA hg hk w2 hm (by rw [t2.1.i 80 (by decide), w4]) (V := fun j => (h.2.1 (32 + k) j).toInt32) (fun j hj => by rw [t2.1.l 81 (by decide), p3 j hj])) (fun c hc => ?_)
          rw [rd_54 hi, hc.2.2.2.1.1 i hi]
          simp only [Option.bind_some]
          refine ev_call (ThM.stop RA (Or.inl rfl) hc.2) (fun r hr => ev_some ⟨rfl, hr.n⟩)
      · refine ag_same R0 (v := -1) ?_ ?_
        · unfold f_X7_later; rw [e1, e3, e5]; rfl
        · unfold f_X8_later; rw [e2, e4, e6]; rfl
    · refine ag_same R0 (v := -1) ?_ ?_
      · unfold f_X7_later; rw [e1, e3]; rfl
      · unfold f_X8_later; rw [e2, e4]; rfl
  · refine ag_same R0 (v := -1) ?_ ?_
    · unfold f_X7_later; rw [e1]; rfl
    · unfold f_X8_later; rw [e2]; rfl
