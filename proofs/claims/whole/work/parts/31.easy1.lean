theorem a_count (v : Int32) (h : Hp) (R : Rel h) : Ev (f_X7_count v h) fun r => Ev (f_X8_count v h) fun t => r = t := by
  obtain ⟨f, s, φ, b, ⟨r1, r2, r3, r4⟩, ⟨r5, r6, r7, r8⟩, ⟨r9, r10⟩, r11, ⟨n, t1, t2, t3, t4⟩, r13, ⟨n', d, c1, c2, c3, c4, c5, c6, c7⟩, r15, ⟨d1, d2, d3, d4, t', d5, d6, d7, d8⟩⟩ := R
  unfold f_X7_count f_X8_count
  rw [r5.1, r6.1, r5.2.1, r6.2.1, t2, t3, c5, c6, d2, d3, d6, d7]
  by_cases q0 : v = 0
  · rw [if_pos q0]; exact ⟨_, rfl, _, rfl, rfl⟩
  rw [if_neg q0]
  by_cases q0 : v = 1
  · rw [if_pos q0]; exact ⟨_, rfl, _, rfl, rfl⟩
  rw [if_neg q0]
  by_cases q0 : v = 2
  · rw [if_pos q0]; exact ⟨_, rfl, _, rfl, rfl⟩
  rw [if_neg q0]
  by_cases q0 : v = 3
  · rw [if_pos q0]; exact ⟨_, rfl, _, rfl, rfl⟩
  rw [if_neg q0]
  by_cases q0 : v = 4
  · rw [if_pos q0]; exact ⟨_, rfl, _, rfl, rfl⟩
  rw [if_neg q0]
  by_cases q0 : v = 5
  · rw [if_pos q0]; exact ⟨_, rfl, _, rfl, rfl⟩
  rw [if_neg q0]
  exact ⟨_, rfl, _, rfl, rfl⟩
theorem a_led (v : Int32) (h : Hp) (R : Rel h) : Ev (f_X7_led v h) fun r => Ev (f_X8_led v h) fun t => r = t := by
  obtain ⟨f, s, φ, b, _, _, _, hl, _⟩ := R
  unfold f_X7_led f_X8_led
  rw [show lnI 16 = some (nI 6) by decide]
  rcases i32_split v with ⟨n, hn, rfl⟩ | ha
  · rw [if_neg (nI_pos hn)]
    simp only [Option.bind_some]
    by_cases q : n < 6
    · rw [if_pos (nI_lt q (by decide)), rd_16 q, nl0, nl5, within_in (by omega) (by omega) (by decide)]
      simp only [Option.bind_some]
      rw [if_neg (by decide), rd_73 q]
      exact ⟨_, rfl, _, rfl, hl n q⟩
    · rw [if_neg (nI_nlt (by omega) hn), nl0, nl5, within_out (by omega) hn (by decide) (by decide)]
      exact ⟨_, rfl, _, rfl, rfl⟩
  · rw [if_pos ha, nl0, within_neg ha (by decide)]
    exact ⟨_, rfl, _, rfl, rfl⟩
theorem a_trace (v : Int32) (h : Hp) (R : Rel h) : Ev (f_X7_trace v h) fun r => Ev (f_X8_trace v h) fun t => r = t := by
  obtain ⟨f, s, φ, b, _, _, _, _, _, _, _, _, ⟨d1, d2, d3, d4, t', d5, d6, d7, d8⟩⟩ := R
  unfold f_X7_trace f_X8_trace f_X1_ranAs
  rw [d6, d7, nl24, nI_min (by decide) (by omega)]
  rcases i32_split v with ⟨n, hn, rfl⟩ | ha
  · rw [if_neg (nI_pos hn)]
    by_cases q : t' ≤ n
    · rw [if_pos (nI_le q hn), within_p0 (by omega) hn]
      exact ⟨_, rfl, _, rfl, rfl⟩
    · rw [if_neg (by rw [nI_leI (by omega) hn]; exact q)]
      by_cases q2 : 24 ≤ n
      · rw [if_pos (nI_le q2 hn), within_p0 (by omega) hn]
        exact ⟨_, rfl, _, rfl, rfl⟩
      · rw [if_neg (by rw [nI_leI (by omega) hn]; exact q2), within_p1 (by omega) (by omega), rd_43 (by omega), rd_78 (by omega)]
        simp only [Option.bind_some]
        rw [if_neg (by decide)]
        exact ⟨_, rfl, _, rfl, d8 n (by omega) (by omega)⟩
  · rw [if_pos ha, nl0, within_neg ha (by decide)]
    exact ⟨_, rfl, _, rfl, rfl⟩
theorem a_person (v : Int32) (h : Hp) (R : Rel h) : Ag (f_X7_person v h) (f_X8_person v) := by
  have R0 := R
  obtain ⟨f, s, φ, b, R0A⟩ := R
  obtain ⟨⟨r1, r2, r3, r4⟩, ⟨r5, r6, r7, r8⟩, ⟨r9, r10⟩, r11, r12, r13, r14, r15, r16⟩ := id R0A
  rcases house_c v with ⟨n, hn, rfl, e1, e2⟩ | ⟨e1, e2⟩
  · have hp := r3.1
    unfold Ag f_X7_person f_X8_person
    simp only [e1, e2, Option.bind_some]
    rw [if_neg (by decide), r5.1]
    simp only [if_neg (show ¬ (1 : Int32) = 0 by decide)]
    by_cases q : foP f = 10
    · rw [if_pos (by rw [q]; rfl)]
      refine ev_some ?_
      show Ev (if h.1 53 1 = 10 then _ else _) _
      rw [r6.1, if_pos (by rw [q]; rfl)]
      exact ev_some ⟨rfl, R0⟩
    · rw [if_neg (by rw [nl10, nI_eq (by omega) (by decide)]; exact q)]
      have hq : foP f < 10 := by omega
      unfold f_X3_settle
      rw [r5.1, wr_2 hq]
      simp only [Option.bind_some]
      rw [show (stI h 2 (foP f) (nI n)).1 1 0 = nI (foP f) from r5.1, wr_3 hq]
      simp only [Option.bind_some]
      refine ev_some ?_
      show Ev (if h.1 53 1 = 10 then _ else _) _
      rw [r6.1, if_neg (by rw [nl10, nI_eq (by omega) (by decide)]; exact q)]
      show Ev ((wrI _ 55 (h.1 53 1) _).bind _) _
      rw [r6.1, wr_55 hq]
      simp only [Option.bind_some]
      show Ev ((wrI _ 56 (h.1 53 1) _).bind _) _
      rw [r6.1, wr_56 hq]
      simp only [Option.bind_some]
      refine ev_some ⟨?_, ?_⟩
      · show h.1 1 0 = h.1 53 1
        rw [r5.1, r6.1]
      · refine ⟨(foP f + 1, foW f, upN (foH f) (foP f) n, upN (foA f) (foP f) 6, foB f, foT f, foG f), s, φ, b, R0A.fo ((((((((Kp.refl r1).st (by decide)).st (by decide)).st (by decide)).st (by decide)).st (by decide)).st (by decide))) ?_ ?_ ?_ ?_ r4 r7 r8 (Nat.le_refl _) (Chg.mono (Nat.le_succ _) (Nat.le_refl _) r14)⟩
        · intro j j1 _ _ _ _
          simp [stI_at, j1]
        · refine ⟨by show foP f + 1 ≤ 10; omega, r3.2.1, fun i hi => ?_, fun i hi => ?_⟩
          · show upN _ _ _ _ < 12 ∧ upN _ _ _ _ ≤ 12
            rw [upN_at, upN_at]
            by_cases e : i = foP f
            · rw [if_pos e, if_pos e]; exact ⟨hn, by decide⟩
            · rw [if_neg e, if_neg e]; exact r3.2.2.1 i (by have : i < foP f + 1 := hi; omega)
          · have := r3.2.2.2 i hi
            exact ⟨Nat.lt_succ_of_lt this.1, Nat.lt_succ_of_lt this.2.1, this.2.2⟩
        · refine ⟨?_, ?_, fun i hi => ?_, fun i hi => ?_⟩
          · simp [stI_at, r5.1, nI_1, foP]
          · simp [stI_at]; exact r5.2.1
          · show _ = nI (upN _ _ _ _) ∧ _ = nI (upN _ _ _ _)
            rw [upN_at, upN_at]
            by_cases e : i = foP f
            · simp [stI_at, e, nl6]
            · have := r5.2.2.1 i (by have : i < foP f + 1 := hi; omega)
              simp [stI_at, e, this]
          · simp [stI_at]; exact r5.2.2.2 i hi
        · refine ⟨?_, ?_, fun i hi => ?_, fun i hi => ?_⟩
          · simp [stI_at, r6.1, nI_1, foP]
          · simp [stI_at]; exact r6.2.1
          · show _ = nI (upN _ _ _ _) ∧ _ = nI (upN _ _ _ _)
            rw [upN_at, upN_at]
            by_cases e : i = foP f
            · simp [stI_at, e, nl6]
            · have := r6.2.2.1 i (by have : i < foP f + 1 := hi; omega)
              simp [stI_at, e, this]
          · simp [stI_at]; exact r6.2.2.2 i hi
  · refine ag_same R0 (v := -1) ?_ ?_
    · unfold f_X7_person; rw [e1]; rfl
    · unfold f_X8_person; rw [e2]; rfl
