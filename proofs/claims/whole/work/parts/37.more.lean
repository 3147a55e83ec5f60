theorem a_again (v : Int32) (h : Hp) (R : Rel h) : Ag (f_X7_again v h) (f_X8_again v) := by
  have R0 := R
  obtain ⟨f, s, φ, b, R0A⟩ := R
  obtain ⟨⟨r1, r2, r3, r4⟩, ⟨r5, r6, r7, r8⟩, ⟨r9, r10⟩, r11, r12, r13, r14, r15, r16⟩ := id R0A
  have n10 : ¬ (1 : Int32) = 0 := by decide
  have hw := r3.2.1
  rcases wrong_c r3 r5 r6 v with ⟨i, hi, rfl, e1, e2⟩ | ⟨e1, e2⟩
  · cases e : scF s i with
    | false =>
      refine ag_same R0 (v := -5) ?_ ?_
      · unfold f_X7_again
        rw [e1]
        simp only [Option.bind_some, if_neg n10]
        rw [isForg_x ok13 hw r7 hi, e]; rfl
      · unfold f_X8_again
        rw [e2]
        simp only [Option.bind_some, if_neg n10]
        rw [rd_61 (by omega), r8.2.2.1 i hi, e]; rfl
    | true =>
      have key : ∀ g, Kp [13, 15, 16] h g → ScX (foW f) (scN s, upN (scD s) i (scT s), upN (scF s) i false, scT s) 13 g → g.1 16 = (fun k => if k = 3 then h.1 16 3 + 1 else h.1 16 k) → Ev (f_X8_again (nI i) g) fun t => nI (scD s i) = t.1 ∧ Rel t.2 := by
        intro g K SX hg
        have g6 : FoM f g := r6.kp K (by rw [K.i 53 (by decide)]) (by rw [K.i 53 (by decide)]) (by decide)
        have g8 : ScM (foW f) s g := r8.kp K (by rw [K.i 53 (by decide)]) (by decide)
        unfold f_X8_again
        have e2' : f_X8_isWrong (nI i) g = some 1 := by
          unfold f_X8_isWrong
          rw [g6.2.1, within_p1 hi (by omega)]; rfl
        rw [e2']
        simp only [Option.bind_some, if_neg n10]
        rw [rd_61 (by omega), g8.2.2.1 i hi, e]
        simp only [Option.bind_some]
        rw [if_neg (by decide), rd_60 (by omega), g8.2.1 i hi]
        simp only [Option.bind_some]
        rw [wr_61 (by omega)]
        simp only [Option.bind_some]
        rw [wr_60 (by omega)]
        simp only [Option.bind_some]
        rw [nl3, rd_73 (by decide)]
        simp only [Option.bind_some]
        rw [wr_73 (by decide)]
        have t53 : g.1 53 10 = nI (scT s) := g8.2.2.2
        refine ⟨_, rfl, rfl, f, (scN s, upN (scD s) i (scT s), upN (scF s) i false, scT s), φ, b, ?_⟩
        refine R0A.up ((K.mono (by decide)).trans ((((Kp.refl K.1).st (by decide)).st (by decide)).st (by decide))) (fun j hj => by simp [stI_at, K.i 53 (by decide)]) ⟨r4.1, fun j hj => ?_, r4.2.2⟩ (SX.eq rfl rfl rfl) ⟨g8.1, fun j hj => ?_, fun j hj => ?_, g8.2.2.2⟩ (fun j hj => ?_) (R0A.thk.eq (K.i 17 (by decide)))
        · show upN _ _ _ _ ≤ 99
          rw [upN_at]
          split
          · exact r4.2.2
          · exact r4.2.1 j hj
        · show _ = nI (upN _ _ _ _)
          rw [upN_at]
          by_cases z : j = i
          · simp [stI_at, z, t53]
          · have := g8.2.1 j hj
            simp [stI_at, z, this]
        · show _ = nI (bI (upN _ _ _ _))
          rw [upN_at]
          by_cases z : j = i
          · simp [stI_at, z]; rfl
          · have := g8.2.2.1 j hj
            simp [stI_at, z, this]
        · have := r11 j hj
          have l2 : g.1 73 = h.1 73 := K.i 73 (by decide)
          by_cases z : j = 3
          · subst z
            simp [stI_at, this, hg, l2]
          · simp [stI_at, this, z, hg, l2]
      unfold Ag f_X7_again
      rw [e1]
      simp only [Option.bind_some, if_neg n10]
      rw [isForg_x ok13 hw r7 hi, e]
      simp only [Option.bind_some]
      rw [if_neg (by decide), rd_15 (by omega), r7.d13 hi]
      simp only [Option.bind_some]
      unfold f_X5_doAgain
      rw [if_pos ok13.1, setF0 ok13 hw r7 hi]
      simp only [Option.bind_some]
      rw [show pf 13 1 = 15 from rfl, wr_15 (by omega)]
      simp only [Option.bind_some]
      rw [nl3, rd_16 (by decide)]
      simp only [Option.bind_some]
      rw [wr_16 (by decide)]
      refine ⟨_, rfl, key _ ((((Kp.refl r1).st (by decide)).st (by decide)).st (by decide)) ⟨r7.1, fun j hj => ?_, rfl, r7.2.2.2⟩ ?_⟩
      · show _ = nI (upN _ _ _ _)
        have t13 : h.1 13 4 = nI (scT s) := r7.2.2.2
        rw [upN_at]
        by_cases z : j = i
        · simp [stI_at, z, show pf 13 1 = 15 from rfl, t13]
        · have := r7.d13 hj
          simp [stI_at, z, this, show pf 13 1 = 15 from rfl]
      · funext k
        by_cases z : k = 3
        · subst z; rfl
        · simp [stI_at, z]
  · refine ag_same R0 (v := -1) ?_ ?_
    · unfold f_X7_again; rw [e1]; rfl
    · unfold f_X8_again; rw [e2]; rfl
theorem a_body (v : Int32) (h : Hp) (R : Rel h) : Ag (f_X7_body v h) (f_X8_body v) := by
  have R0 := R
  obtain ⟨f, s, φ, b, R0A⟩ := R
  obtain ⟨⟨r1, r2, r3, r4⟩, ⟨r5, r6, r7, r8⟩, ⟨r9, r10⟩, r11, r12, r13, r14, r15, ⟨d1, d2, d3, d4, d5⟩⟩ := id R0A
  have n10 : ¬ (1 : Int32) = 0 := by decide
  rcases kind_c v with ⟨k, hk, rfl, e1, e2⟩ | ⟨e1, e2⟩
  · by_cases z : b = 50
    · refine ag_same R0 (v := -3) ?_ ?_
      · unfold f_X7_body f_X1_add
        rw [e1]
        simp only [Option.bind_some, if_neg n10]
        rw [d2, if_pos (by rw [z]; rfl)]; rfl
      · unfold f_X8_body
        rw [e2]
        simp only [Option.bind_some, if_neg n10]
        rw [d3, if_pos (by rw [z]; rfl)]
    · have hz : ¬ nI b = 50 := by rw [nl50, nI_eq (by omega) (by decide)]; exact z
      unfold Ag f_X7_body f_X8_body f_X1_add
      rw [e1]
      simp only [e2, Option.bind_some, if_neg n10]
      rw [d2, if_neg hz, wr_42 (by omega)]
      refine ⟨_, rfl, ?_⟩
      simp only [lt]
      rw [show (stI (stI h 42 b (nI k)) 41 0 ((stI h 42 b (nI k)).1 41 0 + 1)).1 53 37 = nI b from d3, if_neg hz, wr_77 (by omega)]
      refine ⟨_, rfl, ?_, f, s, φ, b + 1, ?_⟩
      · show h.1 41 0 = h.1 53 37
        rw [d2, d3]
      · refine ⟨⟨r1, r2, r3, r4⟩, ⟨r5, r6.eq rfl rfl rfl rfl rfl rfl rfl, r7, r8.eq rfl rfl rfl rfl⟩, ⟨r9.eq rfl rfl rfl rfl, r10.eq rfl rfl rfl rfl rfl rfl⟩, r11, r12.eq rfl rfl rfl rfl, r13.eq rfl rfl rfl rfl rfl rfl rfl rfl rfl rfl, r14.eq rfl rfl rfl rfl rfl rfl rfl rfl, ?_, by omega, ?_, ?_, fun i hi => ?_, ?_⟩
        · intro j hj
          obtain ⟨w1, w2⟩ := r15 j hj
          refine ⟨?_, w2⟩
          rcases w1 with q | ⟨q1, d, q2, q3⟩ | q
          · exact Or.inl q
          · exact Or.inr (Or.inl ⟨q1, d, by omega, q3⟩)
          · exact Or.inr (Or.inr q)
        · simp [stI_at, d2, nI_1]
        · simp [stI_at, lt, d3, nI_1]
        · by_cases e : i = b
          · refine ⟨k, hk, ?_, ?_⟩ <;> simp [stI_at, lt, e]
          · obtain ⟨k', y1, y2, y3⟩ := d4 i (by omega)
            refine ⟨k', y1, ?_, ?_⟩
            · simp [stI_at, e, y2]
            · simp [stI_at, lt, e, y3]
        · obtain ⟨t, y1, y2, y3, y4⟩ := d5
          exact ⟨t, y1, y2, y3, y4⟩
  · refine ag_same R0 (v := -1) ?_ ?_
    · unfold f_X7_body; rw [e1]; rfl
    · unfold f_X8_body; rw [e2]; rfl
theorem a_owes (v : Int32) (h : Hp) (R : Rel h) : Ev (f_X7_owes v h) fun r => Ev (f_X8_owes v h) fun t => r = t := by
  obtain ⟨f, s, φ, b, ⟨r1, r2, r3, r4⟩, ⟨r5, r6, r7, r8⟩, _⟩ := R
  have n10 : ¬ (1 : Int32) = 0 := by decide
  have hp := r3.1
  have hw := r3.2.1
  unfold f_X7_owes f_X8_owes
  rcases one_c r3 r5 r6 v with ⟨n, hn, rfl, e1, e2⟩ | ⟨e1, e2⟩
  · rw [e1, e2]
    simp only [Option.bind_some, if_neg n10]
    have hb : ∀ k s', k ≤ foW f → s'.2 = nI k → Ev (b_X7_owes_18 (nI n) h s') (fun o => b_X8_owes_15 (nI n) h s' = some o ∧ Sum.elim (fun t => k < foW f ∧ t.2 = nI (k + 1)) (fun _ => True) o) := by
      rintro k ⟨x, y⟩ hk e
      subst e
      unfold b_X7_owes_18 b_X8_owes_15
      rw [r5.2.1, r6.2.1]
      by_cases q1 : foW f ≤ k
      · rw [if_pos (nI_le q1 (by omega)), if_pos (nI_le q1 (by omega))]
        exact ev_some ⟨rfl, trivial⟩
      · have hi : k < foW f := by omega
        have a5 := r5.2.2.2 k hi
        have a6 := r6.2.2.2 k hi
        rw [if_neg (by rw [nI_leI (by omega) (by omega)]; exact q1), if_neg (by rw [nI_leI (by omega) (by omega)]; exact q1)]
        rw [isForg_x ok13 hw r7 hi, rd_61 (by omega), r8.2.2.1 k hi]
        simp only [Option.bind_some]
        unfold j_X7_owes_59
        cases scF s k with
        | true =>
          rw [if_neg (show ¬ nI (bI true) = 0 by decide), if_pos (show nI (bI true) = 1 from rfl)]
          exact ev_some ⟨rfl, hi, by rw [nI_1]⟩
        | false =>
          rw [if_pos (show nI (bI false) = 0 from rfl), if_neg (show ¬ nI (bI false) = 1 by decide), rd_4 (by omega), rd_57 (by omega), rd_5 (by omega), rd_58 (by omega), a5.1, a6.1, a5.2.1, a6.2.1]
          simp only [Option.bind_some]
          by_cases z1 : nI (foB f k) = nI n
          · rw [if_pos z1]
            by_cases z2 : nI (foT f k) = nI n
            · rw [if_pos z2]
              exact ev_some ⟨rfl, hi, by rw [nI_1]⟩
            · rw [if_neg z2]
              exact ev_some ⟨rfl, hi, by rw [nI_1]⟩
          · rw [if_neg z1]
            by_cases z2 : nI (foT f k) = nI n
            · rw [if_pos z2]
              exact ev_some ⟨rfl, hi, by rw [nI_1]⟩
            · rw [if_neg z2]
              exact ev_some ⟨rfl, hi, by rw [nI_1]⟩
    obtain ⟨r, h1, h2⟩ := ev_two (P := fun k (s' : Int32 × Int32) => s'.2 = nI k) hb (n := FU) (k := 0) (s := (0, 0)) rfl (by omega) (by rw [FUe]; omega)
    rw [h1, h2]
    exact ⟨_, rfl, _, rfl, rfl⟩
  · rw [e1, e2]
    exact ⟨_, rfl, _, rfl, rfl⟩
