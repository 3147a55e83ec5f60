theorem a_back (h : Hp) (R : Rel h) : Ag (f_X7_back h) f_X8_back := by
  have R0 := R
  obtain ⟨f, s, φ, b, R0A⟩ := R
  obtain ⟨⟨r1, r2, r3, r4⟩, ⟨r5, r6, r7, r8⟩, ⟨r9, r10⟩, r11, r12, r13, r14, r15, r16⟩ := id R0A
  have hw := r3.2.1
  rcases r13.2 with ⟨q1, q2⟩ | ⟨q1, q2, v, k, hv, ko, K, q3, q4, q5, q6, q7, q8⟩
  · refine ag_same R0 (v := -5) ?_ ?_
    · unfold f_X7_back; rw [if_pos q1]
    · unfold f_X8_back; rw [if_pos q2]
  · obtain ⟨g, g1, g2, g3, g4⟩ := back_x r1 hw hv r7 K
    unfold Ag f_X7_back
    rw [if_neg (by rw [q1]; decide), q3, g1]
    simp only [Option.bind_some]
    show Ev ((rdI g 16 (nI 0)).bind _) _
    rw [rd_16 (by decide)]
    refine ⟨_, rfl, ?_⟩
    simp only
    unfold f_X8_back
    rw [show g.1 53 30 = 1 from by rw [g4.i 53 (by decide), q2], if_neg (by decide)]
    refine ev_call (back1 g4.1) (fun x1 hx1 => ?_)
    refine ev_call (back2 hx1.2.1 (show v ≤ 12 by omega) (by rw [hx1.2.i 53 (by decide), g4.i 53 (by decide), q4])) (fun x2 hx2 => ?_)
    rw [nl36, rd_74 (by decide)]
    simp only [Option.bind_some, lt]
    refine ev_call (back3 (h := stI x2.2 53 10 (x2.2.1 74 36)) hx2.2.2.1) (fun x3 hx3 => ?_)
    show Ev ((rdI _ 73 (nI 0)).bind _) _
    rw [rd_73 (by decide)]
    have K1 : Kp BIG h x3.2 := ((((g4.mono (by decide)).trans (hx1.2.mono (by decide))).trans (hx2.2.2.mono (by decide))).st (a := 53) (j := 10) (v := x2.2.1 74 36) (by decide)).trans (hx3.2.mono (by decide))
    have e74 : ∀ j, x2.2.1 74 j = h.1 74 j := fun j => by rw [hx2.2.2.i 74 (by decide), hx1.2.i 74 (by decide), g4.i 74 (by decide)]
    refine ⟨_, rfl, ?_, f, bkS s k v, φ, b, ?_⟩
    · show g.1 16 0 = x3.2.1 73 0
      rw [g3 0 (by decide), hx3.1 0 (by decide), q8 0 (by decide)]
      show _ = x2.2.1 75 0
      rw [hx2.2.2.i 75 (by decide), hx1.2.i 75 (by decide), g4.i 75 (by decide)]
    · refine R0A.up K1 (fun j hj => ?_) (bkS_ok r4 ko) ?_ ⟨fun i hi => ?_, fun i hi => ?_, fun i hi => ?_, ?_⟩ (fun i hi => ?_) (r13.1.1.eq ?_)
      · rw [hx3.2.i 53 (by decide), stI_at, if_pos rfl, if_neg hj, hx2.2.2.i 53 (by decide), hx1.2.i 53 (by decide), g4.i 53 (by decide)]
      · have ee : ∀ c, c = 13 ∨ c = 14 ∨ c = 15 → x3.2.1 c = g.1 c := fun c hc => by
          rw [hx3.2.i c (by simp; omega)]
          funext j
          rw [stI_at, if_neg (by omega), hx2.2.2.i c (by simp; omega), hx1.2.i c (by simp; omega)]
        exact g2.eq (ee 13 (by decide)) (ee 14 (by decide)) (ee 15 (by decide))
      · rw [hx3.2.i 54 (by decide), stI_at, if_neg (by decide), hx2.2.2.i 54 (by decide), hx1.1 i hi, g4.i 74 (by decide)]
        exact q5 i hi
      · show _ = nI (if i < v then scD k i else scD s i)
        rw [hx3.2.i 60 (by decide), stI_at, if_neg (by decide), hx2.2.1 i, hx1.2.i 74 (by decide), g4.i 74 (by decide), hx1.2.i 60 (by decide), g4.i 60 (by decide)]
        by_cases z : i < v
        · rw [if_pos z, if_pos z]; exact (q6 i z).2
        · rw [if_neg z, if_neg z]; exact r8.2.1 i hi
      · show _ = nI (bI (if i < v then scF k i else scF s i))
        rw [hx3.2.i 61 (by decide), stI_at, if_neg (by decide), hx2.1 i, hx1.2.i 74 (by decide), g4.i 74 (by decide), hx1.2.i 61 (by decide), g4.i 61 (by decide)]
        by_cases z : i < v
        · rw [if_pos z, if_pos z]; exact (q6 i z).1
        · rw [if_neg z, if_neg z]; exact r8.2.2.1 i hi
      · rw [hx3.2.i 53 (by decide), stI_at, if_pos rfl, if_pos rfl, e74]
        exact q7
      · rw [hx3.2.i 16 (by decide), hx3.1 i hi, stI_at, if_neg (by decide), hx2.2.2.i 16 (by decide), hx1.2.i 16 (by decide), g3 i hi, stI_at, if_neg (by decide), hx2.2.2.i 75 (by decide), hx1.2.i 75 (by decide), g4.i 75 (by decide)]
        exact q8 i hi
      · rw [hx3.2.i 17 (by decide)]
        show x2.2.1 17 = _
        rw [hx2.2.2.i 17 (by decide), hx1.2.i 17 (by decide), g4.i 17 (by decide)]
