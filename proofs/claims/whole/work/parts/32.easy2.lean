theorem a_feed (v : Int32) (h : Hp) (R : Rel h) : Ag (f_X7_feed v h) (f_X8_feed v) := by
  have R0 := R
  obtain ⟨f, s, φ, b, R0A⟩ := R
  obtain ⟨⟨r1, r2, r3, r4⟩, ⟨r5, r6, r7, r8⟩, ⟨r9, r10⟩, r11, ⟨n, t1, t2, t3, t4⟩, r13, r14, r15, r16⟩ := id R0A
  rcases i32_split v with ⟨m, hm, rfl⟩ | ha
  · by_cases q : m ≤ 255
    · unfold f_X7_feed f_X8_feed f_X4_take
      rw [if_neg (nI_pos hm), if_pos (by rw [nl255]; exact nI_le q (by decide)), nl0, nl255, within_in (Nat.zero_le _) q (by decide), t2]
      by_cases q2 : n = 120
      · rw [if_pos (by rw [q2]; rfl)]
        refine ag_m1 R0 ?_
        simp only [Option.bind_some]
        rw [if_neg (by decide), t3, if_pos (by rw [q2]; rfl)]
      · have hn : n < 120 := by omega
        rw [if_neg (by rw [nl120, nI_eq (by omega) (by decide)]; exact q2), wr_8 hn]
        simp only [Option.bind_some]
        refine ⟨_, rfl, ?_⟩
        show Ev (if (1 : Int32) = nI 0 then _ else if h.1 53 11 = 120 then _ else _) _
        rw [if_neg (by decide), t3, if_neg (by rw [nl120, nI_eq (by omega) (by decide)]; exact q2)]
        show Ev ((wrI _ 62 (h.1 53 11) _).bind _) _
        rw [t3, wr_62 hn]
        refine ⟨_, rfl, ?_, ?_⟩
        · simp [stI_at, t2, t3]
        · refine ⟨f, s, φ, b, ⟨r1, r2, r3, r4⟩, ⟨r5, r6.eq rfl rfl rfl rfl rfl rfl rfl, r7, r8.eq rfl rfl rfl rfl⟩, ⟨r9.eq rfl rfl rfl rfl, r10.eq rfl rfl rfl rfl rfl rfl⟩, r11, ⟨n + 1, hn, ?_, ?_, fun i hi => ?_⟩, r13.eq rfl rfl rfl rfl rfl rfl rfl rfl rfl rfl, r14.eq rfl rfl rfl rfl rfl rfl rfl rfl, r15, r16.eq rfl rfl rfl rfl rfl rfl rfl⟩
          · simp [stI_at, lt, t2, nI_1]
          · simp [stI_at, lt, t3, nI_1]
          · by_cases e : i = n
            · simp [stI_at, lt, e]; exact ⟨m, q, rfl⟩
            · simp [stI_at, lt, e]; exact t4 i (by omega)
    · refine ag_same R0 (v := -1) ?_ ?_
      · unfold f_X7_feed
        rw [if_neg (nI_pos hm), if_neg (by rw [nl255, nI_leI hm (by decide)]; exact q)]
      · unfold f_X8_feed
        rw [nl0, nl255, within_out (by omega) hm (by decide) (by decide)]; rfl
  · refine ag_same R0 (v := -1) ?_ ?_
    · unfold f_X7_feed; rw [if_pos ha]
    · unfold f_X8_feed; rw [nl0, within_neg ha (by decide)]; rfl
theorem a_post (v w : Int32) (h : Hp) (R : Rel h) : Ev (f_X7_post v w h) fun r => Ev (f_X8_post v w h) fun t => r = t := by
  obtain ⟨f, s, φ, b, ⟨r1, r2, r3, r4⟩, ⟨r5, r6, r7, r8⟩, _⟩ := R
  unfold f_X7_post f_X8_post
  rcases house_c v with ⟨n, hn, rfl, e1, e2⟩ | ⟨e1, e2⟩
  · rw [e1, e2]
    simp only [Option.bind_some, if_neg (show ¬ (1 : Int32) = 0 by decide)]
    rcases i32_split w with ⟨m, hm, rfl⟩ | ha
    · by_cases q : m ≤ 999
      · rw [if_neg (nI_pos hm), if_pos (by rw [nl999]; exact nI_le q (by decide)), nl0, nl999, within_in (Nat.zero_le _) q (by decide)]
        simp only [Option.bind_some, if_neg (show ¬ (1 : Int32) = nI 0 by decide)]
        have hb : ∀ k s, k ≤ 12 → s = nI k → Ev (b_X7_post_22 (nI n) (nI m) h s) (fun o => b_X8_post_22 (nI n) (nI m) h s = some o ∧ Sum.elim (fun t => k < 12 ∧ t = nI (k + 1)) (fun _ => True) o) := by
          rintro k _ hk rfl
          unfold b_X7_post_22 b_X8_post_22
          by_cases q1 : 12 ≤ k
          · rw [if_pos (by rw [nl12]; exact nI_le q1 (by omega)), if_pos (by rw [nl12]; exact nI_le q1 (by omega))]
            exact ev_some ⟨rfl, trivial⟩
          · rw [if_neg (by rw [nl12, nI_leI (by decide) (by omega)]; exact q1), if_neg (by rw [nl12, nI_leI (by decide) (by omega)]; exact q1)]
            rw [nI_add, nl12, nI_mod (by omega) (by decide), rd_14 (Nat.mod_lt _ (by decide)), rd_54 (Nat.mod_lt _ (by decide)), r7.n13 (Nat.mod_lt _ (by decide)), r8.1 _ (Nat.mod_lt _ (by decide))]
            simp only [Option.bind_some]
            by_cases q2 : nI (scN s ((n + k) % 12)) = nI m
            · rw [if_pos q2]
              exact ev_some ⟨rfl, trivial⟩
            · rw [if_neg q2]
              exact ev_some ⟨rfl, by omega, by rw [nI_1]⟩
        obtain ⟨r, h1, h2⟩ := ev_two (P := fun k s => s = nI k) hb (n := FU) (k := 0) (s := nI 0) rfl (by omega) (by rw [FUe]; omega)
        rw [h1, h2]
        simp only [Option.bind_some]
        cases r with
        | inl a => exact ⟨_, rfl, _, rfl, rfl⟩
        | inr a => exact ⟨_, rfl, _, rfl, rfl⟩
      · rw [if_neg (nI_pos hm), if_neg (by rw [nl999, nI_leI hm (by decide)]; exact q), nl0, nl999, within_out (by omega) hm (by decide) (by decide)]
        exact ⟨_, rfl, _, rfl, rfl⟩
    · rw [if_pos ha, nl0, within_neg ha (by decide)]
      exact ⟨_, rfl, _, rfl, rfl⟩
  · rw [e1, e2]
    exact ⟨_, rfl, _, rfl, rfl⟩
