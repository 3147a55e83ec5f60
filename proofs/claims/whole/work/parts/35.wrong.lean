theorem a_wrong (v w : Int32) (h : Hp) (R : Rel h) : Ag (f_X7_wrong v w h) (f_X8_wrong v w) := by
  have R0 := R
  obtain ⟨f, s, φ, b, R0A⟩ := R
  obtain ⟨⟨r1, r2, r3, r4⟩, ⟨r5, r6, r7, r8⟩, ⟨r9, r10⟩, r11, r12, r13, r14, r15, r16⟩ := id R0A
  have n10 : ¬ (1 : Int32) = 0 := by decide
  have hw := r3.2.1
  by_cases q : v < 0
  · refine ag_same R0 (v := -1) ?_ ?_
    · unfold f_X7_wrong; rw [if_pos q]
    · unfold f_X8_wrong; rw [if_pos q]
  · rcases so_c r3 r5 (v / 10) (v % 10) w with ⟨i, j, k, hi, hj, h1, h9, e1, e2, rfl, e4, e5⟩ | ⟨e4, e5⟩
    · have e6 := e5 h r6
      by_cases z : foW f = 12
      · refine ag_same R0 (v := -3) ?_ ?_
        · unfold f_X7_wrong
          rw [if_neg q, e4]
          simp only [Option.bind_some, if_neg n10]
          rw [r5.2.1, if_pos (by rw [z]; rfl)]
        · unfold f_X8_wrong
          rw [if_neg q, e6]
          simp only [Option.bind_some, if_neg n10]
          rw [r6.2.1, if_pos (by rw [z]; rfl)]
      · have hz : ¬ nI (foW f) = 12 := by rw [nl12, nI_eq (by omega) (by decide)]; exact z
        unfold Ag f_X7_wrong f_X8_wrong
        rw [if_neg q, e4]
        simp only [Option.bind_some, if_neg n10]
        rw [r5.2.1, if_neg hz, e1, e2]
        obtain ⟨h1', a1, a2, a3, a4⟩ := addX r1 r5 r7 (by omega) i j k
        rw [a1]
        refine ⟨_, rfl, ?_⟩
        have g6 : FoM f h1' := r6.kp a4 (by rw [a4.i 53 (by decide)]) (by rw [a4.i 53 (by decide)]) (by decide)
        have g8 : ScM (foW f) s h1' := r8.kp a4 (by rw [a4.i 53 (by decide)]) (by decide)
        have e5' : f_X8_isSuch (nI i) (nI j) (nI k) h1' = some 1 := by have := e5 h1' g6; rwa [e1, e2] at this
        show Ev (if v < 0 then _ else (f_X8_isSuch (nI i) (nI j) (nI k) h1').bind _) _
        rw [if_neg q, e5']
        simp only [Option.bind_some, if_neg n10]
        rw [g6.2.1, if_neg hz]
        obtain ⟨h2', b1, b2, b3, b4, b5⟩ := addM a4.1 g6 g8 (by omega) i j k
        rw [b1]
        refine ⟨_, rfl, rfl, addF f i j k, addS (foW f) s, φ, b, ?_⟩
        have K : Kp FOL h h2' := (a4.mono (by decide)).trans (b4.mono (by decide))
        refine R0A.fo K (fun j _ h4 _ _ _ => ?_) (addF_ok r3 (by omega) hi hj h1 h9) (a2.kp b4 (by decide)) b2 (addS_ok r4) (a3.kp b4 (by decide) (by decide) (by decide)) b3 (Nat.le_succ _) ?_
        · rw [b5 j h4, a4.i 53 (by decide)]
        · refine Chg.mono (f := f) (f' := addF f i j k) (Nat.le_refl (foP f)) (Nat.le_succ (foW f)) (r14.eq ?_ ?_ ?_ ?_ ?_ ?_ ?_ ?_)
          · rw [b4.i 25 (by decide), a4.i 25 (by decide)]
          · rw [b4.i 26 (by decide), a4.i 26 (by decide)]
          · rw [b4.i 27 (by decide), a4.i 27 (by decide)]
          · rw [b4.i 28 (by decide), a4.i 28 (by decide)]
          · rw [b4.i 29 (by decide), a4.i 29 (by decide)]
          · rw [b4.i 76 (by decide), a4.i 76 (by decide)]
          · rw [b5 34 (by decide), a4.i 53 (by decide)]
          · rw [b5 35 (by decide), a4.i 53 (by decide)]
    · refine ag_same R0 (v := -1) ?_ ?_
      · unfold f_X7_wrong; rw [if_neg q, e4]; rfl
      · unfold f_X8_wrong; rw [if_neg q, e5 h r6]; rfl
theorem a_days (v : Int32) (h : Hp) (R : Rel h) : Ag (f_X7_days v h) (f_X8_days v) := by
  have R0 := R
  obtain ⟨f, s, φ, b, R0A⟩ := R
  obtain ⟨⟨r1, r2, r3, r4⟩, ⟨r5, r6, r7, r8⟩, ⟨r9, r10⟩, r11, r12, r13, r14, r15, r16⟩ := id R0A
  have n10 : ¬ (1 : Int32) = 0 := by decide
  rcases i32_split v with ⟨n, hn, rfl⟩ | ha
  · by_cases q : 1 ≤ n ∧ n ≤ 99
    · unfold Ag f_X7_days f_X8_days f_X5_pass
      rw [if_neg (by rw [nl1]; exact nI_nlt q.1 hn), if_pos (by rw [nl99]; exact nI_le q.2 (by decide)), if_pos ok13.1, r7.2.2.2]
      have ht := r4.2.2
      rw [nI_add, nl99, nI_min (by decide) (by omega), nl1, within_in q.1 q.2 (by decide)]
      simp only [lt, Option.bind_some]
      rw [nl4, rd_16 (by decide)]
      simp only [Option.bind_some]
      rw [wr_16 (by decide)]
      refine ⟨_, rfl, ?_⟩
      simp only [if_neg (show ¬ nI 1 = 0 by decide)]
      rw [show (stI (stI h 13 4 (nI (min 99 (scT s + n)))) 16 4 ((stI h 13 4 (nI (min 99 (scT s + n)))).1 16 4 + nI n)).1 53 10 = nI (scT s) from r8.2.2.2, nI_add, nI_min (by decide) (by omega), rd_73 (by decide)]
      simp only [Option.bind_some]
      rw [wr_73 (by decide)]
      refine ⟨_, rfl, rfl, f, (scN s, scD s, scF s, min 99 (scT s + n)), φ, b, ?_⟩
      refine R0A.up (((((Kp.refl r1).st (by decide)).st (by decide)).st (by decide)).st (by decide)) (fun j hj => by simp [stI_at, hj]) ⟨r4.1, r4.2.1, Nat.min_le_left _ _⟩ ⟨r7.1, r7.2.1, r7.2.2.1, rfl⟩ ⟨r8.1, r8.2.1, r8.2.2.1, rfl⟩ (fun i hi => ?_) (R0A.thk.eq rfl)
      have := r11 i hi
      by_cases e : i = 4
      · subst e
        simp [stI_at, this]
      · simp [stI_at, this, e]
    · refine ag_same R0 (v := -1) ?_ ?_
      · unfold f_X7_days
        by_cases q1 : n < 1
        · rw [if_pos (by rw [nl1]; exact nI_lt q1 (by decide))]
        · rw [if_neg (by rw [nl1]; exact nI_nlt (by omega) hn), if_neg (by rw [nl99, nI_leI hn (by decide)]; omega)]
      · unfold f_X8_days
        rw [nl1, nl99, within_out (by omega) hn (by decide) (by decide)]; rfl
  · refine ag_same R0 (v := -1) ?_ ?_
    · unfold f_X7_days; rw [if_pos (by rw [nl1]; exact neg_lt ha (by decide))]
    · unfold f_X8_days; rw [nl1, within_neg ha (by decide)]; rfl
theorem a_slam (v : Int32) (h : Hp) (R : Rel h) : Ag (f_X7_slam v h) (f_X8_slam v) := by
  have R0 := R
  obtain ⟨f, s, φ, b, R0A⟩ := R
  obtain ⟨⟨r1, r2, r3, r4⟩, ⟨r5, r6, r7, r8⟩, ⟨r9, r10⟩, r11, r12, r13, r14, r15, r16⟩ := id R0A
  have n10 : ¬ (1 : Int32) = 0 := by decide
  rcases house_c v with ⟨n, hn, rfl, e1, e2⟩ | ⟨e1, e2⟩
  · have dec : ∀ x, x ≤ 999 → mxI 0 (nI x - 1) = nI (x - 1) := by
      intro x hx
      rcases Nat.eq_zero_or_pos x with z | z
      · subst z; decide
      · rw [nl0, nl1, nI_sub z, nI_max (by decide) (by omega), Nat.max_eq_right (Nat.zero_le _)]
    have hx := r4.1 n hn
    unfold Ag f_X7_slam f_X8_slam
    rw [e1]
    simp only [e2, Option.bind_some, if_neg n10]
    rw [rd_14 hn]
    simp only [Option.bind_some]
    rw [r7.n13 hn, dec _ hx, wr_14 hn]
    simp only [Option.bind_some]
    rw [nl5, rd_16 (by decide)]
    simp only [Option.bind_some]
    rw [wr_16 (by decide)]
    simp only [Option.bind_some]
    rw [rd_14 hn]
    refine ⟨_, rfl, ?_⟩
    simp only
    rw [rd_54 hn]
    simp only [Option.bind_some]
    rw [show (stI (stI h 14 n (nI (scN s n - 1))) 16 5 ((stI h 14 n (nI (scN s n - 1))).1 16 5 + 1)).1 54 n = nI (scN s n) from r8.1 n hn, dec _ hx, wr_54 hn]
    simp only [Option.bind_some]
    rw [rd_73 (by decide)]
    simp only [Option.bind_some]
    rw [wr_73 (by decide)]
    simp only [Option.bind_some]
    rw [rd_54 hn]
    refine ⟨_, rfl, by simp [stI_at], f, (upN (scN s) n (scN s n - 1), scD s, scF s, scT s), φ, b, ?_⟩
    refine R0A.up (((((Kp.refl r1).st (by decide)).st (by decide)).st (by decide)).st (by decide)) (fun j hj => by simp [stI_at]) ⟨fun i hi => ?_, r4.2.1, r4.2.2⟩ ⟨fun i hi => ?_, r7.2.1, r7.2.2.1, r7.2.2.2⟩ ⟨fun i hi => ?_, r8.2.1, r8.2.2.1, r8.2.2.2⟩ (fun i hi => ?_) (R0A.thk.eq rfl)
    · show upN _ _ _ _ ≤ 999
      rw [upN_at]
      split
      · omega
      · exact r4.1 i hi
    · show _ = nI (upN _ _ _ _)
      rw [upN_at]
      by_cases e : i = n
      · simp [stI_at, e, show pf 13 0 = 14 from rfl]
      · have := r7.n13 hi
        simp [stI_at, e, this, show pf 13 0 = 14 from rfl]
    · show _ = nI (upN _ _ _ _)
      rw [upN_at]
      by_cases e : i = n
      · simp [stI_at, e]
      · have := r8.1 i hi
        simp [stI_at, e, this]
    · have := r11 i hi
      by_cases e : i = 5
      · subst e
        simp [stI_at, this]
      · simp [stI_at, this, e]
  · refine ag_same R0 (v := -1) ?_ ?_
    · unfold f_X7_slam; rw [e1]; rfl
    · unfold f_X8_slam; rw [e2]; rfl
