theorem RelA.n {f : Fo} {s : Sc} {φ : Ph} {b : Nat} {h : Hp} (R : RelA f s φ b h) : Rel h := ⟨f, s, φ, b, R⟩
theorem a_counts (v w : Int32) (h : Hp) (R : Rel h) : Ag (f_X7_counts v w h) (f_X8_counts v w) := by
  have R0 := R
  obtain ⟨f, s, φ, b, R0A⟩ := R
  obtain ⟨⟨r1, r2, r3, r4⟩, ⟨r5, r6, r7, r8⟩, ⟨r9, r10⟩, r11, r12, r13, r14, r15, r16⟩ := id R0A
  have n10 : ¬ (1 : Int32) = 0 := by decide
  rcases wrong_c r3 r5 r6 v with ⟨i, hi, rfl, e1, e2⟩ | ⟨e1, e2⟩
  · rcases house_c w with ⟨n, hn, rfl, e3, e4⟩ | ⟨e3, e4⟩
    · unfold Ag f_X7_counts
      rw [e1, e3]
      simp only [Option.bind_some, if_neg n10]
      refine ev_call (worth_k ok13 r1 r3 r4 r5 r7 r9 hi hn) (fun u hu => ev_some ?_)
      obtain ⟨u1, u2⟩ := hu
      have RA := R0A.scr (u2.mono (by decide)) (R0A.thk.eq (u2.i 17 (by decide)))
      obtain ⟨⟨p1, p2, p3, p4⟩, ⟨p5, p6, p7, p8⟩, ⟨p9, p10⟩, _⟩ := id RA
      show Ev (f_X8_counts (nI i) (nI n) u.2) _
      unfold f_X8_counts
      have e2' : f_X8_isWrong (nI i) u.2 = some 1 := by
        unfold f_X8_isWrong
        rw [p6.2.1, within_p1 hi (by have := r3.2.1; omega)]; rfl
      rw [e2', e4]
      simp only [Option.bind_some, if_neg n10]
      refine ev_call (count_k p1 p3 p4 p6 p8 p10 hi hn) (fun t ht => ev_some ?_)
      exact ⟨by show u.1 = t.1; rw [u1, ht.1], (RA.scr (ht.2.mono (by decide)) (RA.thk.eq (ht.2.i 17 (by decide)))).n⟩
    · refine ag_same R0 (v := -1) ?_ ?_
      · unfold f_X7_counts; rw [e1, e3]; rfl
      · unfold f_X8_counts; rw [e2, e4]; rfl
  · refine ag_same R0 (v := -1) ?_ ?_
    · unfold f_X7_counts; rw [e1]; rfl
    · unfold f_X8_counts; rw [e2]; rfl
theorem nI_inc (x : Int32) : x + 1 = x + 1 := rfl
theorem a_call (v w : Int32) (h : Hp) (R : Rel h) : Ag (f_X7_call v w h) (f_X8_call v w) := by
  have R0 := R
  obtain ⟨f, s, φ, b, R0A⟩ := R
  obtain ⟨⟨r1, r2, r3, r4⟩, ⟨r5, r6, r7, r8⟩, ⟨r9, r10⟩, r11, r12, r13, r14, r15, r16⟩ := id R0A
  have n10 : ¬ (1 : Int32) = 0 := by decide
  rcases wrong_c r3 r5 r6 v with ⟨i, hi, rfl, e1, e2⟩ | ⟨e1, e2⟩
  · rcases house_c w with ⟨n, hn, rfl, e3, e4⟩ | ⟨e3, e4⟩
    · unfold Ag f_X7_call
      rw [e1, e3]
      simp only [Option.bind_some, if_neg n10]
      refine ev_call (forgive_x ok13 r1 r2 r3 r4 r5 r7 r9 hi hn) (fun u hu => ?_)
      obtain ⟨u1, u2, u3⟩ := hu
      have hc : calN f φ s i n ≤ 9 := by
        unfold calN
        split
        · decide
        · exact r2 _ _ _ _ _ _
      have key : ∀ g, g.1 16 = (fun k => if calN f φ s i n = 0 then (if k = 1 then u.2.1 16 1 + 1 else u.2.1 16 k) else if k = 2 then u.2.1 16 2 + nI (calN f φ s i n) else if k = 0 then u.2.1 16 0 + 1 else u.2.1 16 k) → Kp [16] u.2 g → Ev (f_X8_call (nI i) (nI n) g) fun t => u.1 = t.1 ∧ Rel t.2 := by
        intro g hg Kg
        have K1 : Kp [11, 12, 13, 14, 16] h g := (u3.mono (by decide)).trans (Kg.mono (by decide))
        have g6 : FoM f g := r6.kp K1 (by rw [K1.i 53 (by decide)]) (by rw [K1.i 53 (by decide)]) (by decide)
        have g8 : ScM (foW f) s g := r8.kp K1 (by rw [K1.i 53 (by decide)]) (by decide)
        have g10 : LawM φ g := r10.kp K1 (by rw [K1.i 53 (by decide)]) (by rw [K1.i 53 (by decide)]) (by decide)
        unfold f_X8_call
        have e2' : f_X8_isWrong (nI i) g = some 1 := by
          unfold f_X8_isWrong
          rw [g6.2.1, within_p1 hi (by have := r3.2.1; omega)]; rfl
        rw [e2', e4]
        simp only [Option.bind_some, if_neg n10]
        refine ev_call (calls_m K1.1 r2 r3 r4 g6 g8 g10 hi hn) (fun t ht => ?_)
        obtain ⟨t1, t2, t3⟩ := ht
        have fin : ∀ t0 : Nat, t0 < 2 → (t0 = if calN f φ s i n = 0 then 1 else 0) → Ev (j_X8_call_37 t.1 (nI t0) t.2) fun t => u.1 = t.1 ∧ Rel t.2 := by
          intro t0 h2 ht0
          unfold j_X8_call_37
          rw [rd_73 (by omega)]
          simp only [Option.bind_some]
          rw [wr_73 (by omega)]
          simp only [Option.bind_some]
          rw [nl2, rd_73 (by decide)]
          simp only [Option.bind_some]
          rw [wr_73 (by decide)]
          refine ⟨_, rfl, by show u.1 = t.1; rw [u1, t1], f, cal f φ s i n, φ, b, ?_⟩
          have K2 : Kp [54, 61, 71, 72, 73] g _ := (((t3.mono (by decide)).st (a := 73) (j := t0) (v := t.2.1 73 t0 + 1) (by decide)).st (a := 73) (j := 2) (v := (stI t.2 73 t0 (t.2.1 73 t0 + 1)).1 73 2 + t.1) (by decide))
          refine R0A.up ((K1.mono (by decide)).trans (K2.mono (by decide))) (fun j _ => by rw [K2.i 53 (by decide), K1.i 53 (by decide)]) (cal_ok r4) ?_ ?_ ?_ (R0A.thk.eq (by rw [K2.i 17 (by decide), K1.i 17 (by decide)]))
          · exact ((u2.kp Kg (by decide) (by decide) (by decide)).kp K2 (by decide) (by decide) (by decide))
          · exact t2.eq rfl rfl rfl rfl
          · intro k hk
            have l1 := r11 k hk
            have l2 : g.1 73 = h.1 73 := K1.i 73 (by decide)
            have l3 : t.2.1 73 = g.1 73 := t3.i 73 (by decide)
            have l4 : u.2.1 16 = h.1 16 := u3.i 16 (by decide)
            rw [K2.i 16 (by decide), hg, l4]
            simp only [stI_at, if_true, l3, l2, t1]
            have m0 := r11 0 (by decide)
            have m1 := r11 1 (by decide)
            have m2 := r11 2 (by decide)
            by_cases z : calN f φ s i n = 0
            · rw [if_pos z] at ht0
              subst ht0
              rw [if_pos z, z]
              match k, hk with
              | 0, _ => simpa using m0
              | 1, _ => simpa using m1
              | 2, _ => simp [m2, ← nl0]
              | 3, _ => simpa using l1
              | 4, _ => simpa using l1
              | 5, _ => simpa using l1
            · rw [if_neg z] at ht0
              subst ht0
              rw [if_neg z]
              match k, hk with
              | 0, _ => simpa using m0
              | 1, _ => simpa using m1
              | 2, _ => simp [m2]
              | 3, _ => simpa using l1
              | 4, _ => simpa using l1
              | 5, _ => simpa using l1
        by_cases z : calN f φ s i n = 0
        · rw [if_pos (by rw [t1, z]; decide)]
          exact fin 1 (by decide) (by rw [if_pos z])
        · rw [if_neg (by rw [t1]; exact nI_nle (by omega) (by omega))]
          exact fin 0 (by decide) (by rw [if_neg z])
      by_cases z : calN f φ s i n = 0
      · rw [if_pos (by rw [u1, z]; rfl), nl1, rd_16 (by decide)]
        simp only [Option.bind_some]
        rw [wr_16 (by decide)]
        refine ⟨_, rfl, key _ ?_ ((Kp.refl u3.1).st (by decide))⟩
        funext k
        simp only [stI_at, if_true]
        rw [if_pos z]; rfl
      · rw [if_neg (by rw [u1, nl0, nI_eq (by omega) (by decide)]; exact z), nl0, rd_16 (by decide)]
        simp only [Option.bind_some]
        rw [wr_16 (by decide)]
        simp only [Option.bind_some]
        rw [nl2, rd_16 (by decide)]
        simp only [Option.bind_some]
        rw [wr_16 (by decide)]
        refine ⟨_, rfl, key _ ?_ (((Kp.refl u3.1).st (by decide)).st (by decide))⟩
        funext k
        simp only [stI_at, if_true, u1]
        rw [if_neg z]
        by_cases z2 : k = 2
        · subst z2; rfl
        · rw [if_neg z2, if_neg z2]
    · refine ag_same R0 (v := -1) ?_ ?_
      · unfold f_X7_call; rw [e1, e3]; rfl
      · unfold f_X8_call; rw [e2, e4]; rfl
  · refine ag_same R0 (v := -1) ?_ ?_
    · unfold f_X7_call; rw [e1]; rfl
    · unfold f_X8_call; rw [e2]; rfl
