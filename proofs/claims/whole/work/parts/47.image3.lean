theorem Shv.kp {L : List Nat} {b : Nat} {h h' : Hp} (R : Shv b h) (K : Kp L h h') (hL : ([32, 33, 34, 35, 36, 37, 38, 39, 40, 79, 80, 81].all fun c => !L.contains c) = true) : Shv b h' := by
  have e : ∀ k, k ∈ [32, 33, 34, 35, 36, 37, 38, 39, 40, 79, 80, 81] → L.contains k = false := fun k hk => by simpa using List.all_eq_true.mp hL k hk
  intro k hk
  have h1 := R k hk
  unfold ShAt at h1 ⊢
  rw [K.i 39 (e _ (by decide)), K.i 79 (e _ (by decide)), K.i 40 (e _ (by decide)), K.l 81 (e _ (by decide)), K.l (32 + k) (e _ (by simp; omega)), K.i 38 (e _ (by decide)), K.i 80 (e _ (by decide))]
  exact h1
theorem led_img {h : Hp} (q : LR h) : Ev (iter b_X8_image_23 FU (0, h)) fun r => (∀ i, i < 6 → r.2.1 75 i = h.1 73 i) ∧ Kp [75] h r.2 := by
  refine ev_for (k := 0) (fun i (r : Int32 × Hp) => r.1 = nI i ∧ (∀ j, j < i → r.2.1 75 j = h.1 73 j) ∧ Kp [75] h r.2) 6 (fun i r hi hP => ?_) ⟨rfl, fun j hj => absurd hj (Nat.not_lt_zero j), Kp.refl q⟩ (Nat.zero_le _) (by rw [FUe]; decide)
  obtain ⟨x, g⟩ := r
  obtain ⟨p1, p2, p3⟩ := hP
  simp only at p1 p2 p3
  subst p1
  unfold b_X8_image_23
  by_cases z : 6 ≤ i
  · rw [if_pos (by rw [nl6]; exact nI_le z (by omega))]
    have : i = 6 := by omega
    subst this
    exact ev_some ⟨p2, p3⟩
  · rw [if_neg (by rw [nl6, nI_leI (by decide) (by omega)]; exact z), rd_73 (by omega)]
    simp only [Option.bind_some]
    rw [wr_75 (by omega)]
    refine ev_some ⟨by omega, by rw [nl1, nI_add], fun j hj => ?_, p3.st (by decide)⟩
    simp only [stI_at, if_true, p3.i 73 (by decide)]
    by_cases e : j = i
    · rw [if_pos e, e]
    · rw [if_neg e]; exact p2 j (by omega)
theorem a_image (h : Hp) (R : Rel h) : Ag (f_X7_image h) f_X8_image := by
  have R0 := R
  obtain ⟨f, s, φ, b, R0A⟩ := R
  obtain ⟨⟨r1, r2, r3, r4⟩, ⟨r5, r6, r7, r8⟩, ⟨r9, r10⟩, r11, r12, r13, r14, r15, r16⟩ := id R0A
  have hw := r3.2.1
  obtain ⟨g, g1, g2, g3, g4⟩ := become_x (Or.inl rfl) r1 hw r7 r13.1.2
  unfold Ag f_X7_image
  rw [g1]
  simp only [Option.bind_some, lt]
  show Ev ((rdI _ 16 (nI 0)).bind _) _
  rw [rd_16 (by decide)]
  refine ⟨_, rfl, ?_⟩
  have K1 : Kp [0, 21, 22, 23, 24] h (stI (stI g 0 5 1) 0 6 ((stI g 0 5 1).1 1 3)) := ((g4.mono (by decide)).st (by decide)).st (by decide)
  have w1 : (stI g 0 5 1).1 1 3 = nI (foW f) := by
    rw [show (stI g 0 5 1).1 1 3 = g.1 1 3 from rfl, g4.i 1 (by decide), r5.2.1]
  rw [w1] at K1 ⊢
  simp only
  have hM : ∃ m, m = stI (stI g 0 5 1) 0 6 (nI (foW f)) := ⟨_, rfl⟩
  obtain ⟨m, hm⟩ := hM
  rw [← hm] at K1 ⊢
  have q1 : ScX (foW f) s 21 m := by rw [hm]; exact g2.eq rfl rfl rfl
  have q2 : m.1 0 5 = 1 := by rw [hm]; rfl
  have q3 : m.1 0 6 = nI (foW f) := by rw [hm]; rfl
  have q4 : ∀ i, i < 6 → m.1 24 i = h.1 16 i := by rw [hm]; exact g3
  unfold f_X8_image
  simp only [lt]
  have w2 : (stI m 53 30 1).1 53 4 = nI (foW f) := by
    rw [show (stI m 53 30 1).1 53 4 = m.1 53 4 from rfl, K1.i 53 (by decide), r6.2.1]
  rw [w2]
  have K2 : Kp [0, 21, 22, 23, 24, 53] h (stI (stI m 53 30 1) 53 31 (nI (foW f))) := ((K1.mono (by decide)).st (by decide)).st (by decide)
  refine ev_call (keeps_m okc74 K2.1) (fun k hk => ?_)
  obtain ⟨⟨k1, k2⟩, k3⟩ := hk
  refine ev_call (led_img k3.1) (fun t ht => ?_)
  obtain ⟨t1, t2⟩ := ht
  show Ev ((rdI _ 73 (nI 0)).bind _) _
  rw [rd_73 (by decide)]
  have K3 : Kp [74, 75] (stI (stI m 53 30 1) 53 31 (nI (foW f))) t.2 := (k3.mono (by decide)).trans (t2.mono (by decide))
  have K4 : Kp [0, 21, 22, 23, 24, 53, 74, 75] h t.2 := (K2.mono (by decide)).trans (K3.mono (by decide))
  have e53 : ∀ j, j ≠ 30 → j ≠ 31 → t.2.1 53 j = h.1 53 j := fun j h1 h2 => by
    rw [K3.i 53 (by decide), stI_at, if_pos rfl, if_neg h2, stI_at, if_pos rfl, if_neg h1, K1.i 53 (by decide)]
  have m0 : ∀ c, [53, 74, 75].contains c = false → t.2.1 c = m.1 c := fun c hc => by
    have h1 : c ≠ 53 ∧ c ≠ 74 ∧ c ≠ 75 := by simpa using hc
    rw [K3.i c (by simp [h1.2.1, h1.2.2])]
    funext j
    rw [stI_at, if_neg h1.1, stI_at, if_neg h1.1]
  refine ⟨_, rfl, ?_, f, s, φ, b, ?_⟩
  · show m.1 16 0 = t.2.1 73 0
    rw [K1.i 16 (by decide), K4.i 73 (by decide)]
    exact r11 0 (by decide)
  · refine ⟨⟨K4.1, r2, r3, r4⟩, ⟨r5.kp K4 (by decide), r6.kp K4 (e53 1 (by decide) (by decide)) (e53 4 (by decide) (by decide)) (by decide), r7.kp K4 (by decide) (by decide) (by decide), r8.kp K4 (e53 10 (by decide) (by decide)) (by decide)⟩, ⟨r9.kp K4 (by decide), r10.kp K4 (e53 13 (by decide) (by decide)) (e53 14 (by decide) (by decide)) (by decide)⟩, r11.eq (K4.i _ (by decide)) (K4.i _ (by decide)), r12.eq (by rw [K4.i 7 (by decide)]) (e53 11 (by decide) (by decide)) (K4.i _ (by decide)) (K4.i _ (by decide)), ⟨⟨r13.1.1.eq (K4.i 17 (by decide)), ⟨_, msk_lt12 (b := scF s) hw, by show t.2.1 21 3 = _; rw [m0 21 (by decide), q1.2.2.1]⟩⟩, Or.inr ⟨?_, ?_, foW f, s, Nat.le_refl _, r4, q1.eq (m0 21 (by decide)) (m0 22 (by decide)) (m0 23 (by decide)), ?_, ?_, fun i hi => ?_, fun i hi => ⟨?_, ?_⟩, ?_, fun i hi => ?_⟩⟩, r14.eq (K4.i _ (by decide)) (K4.i _ (by decide)) (K4.i _ (by decide)) (K4.i _ (by decide)) (K4.i _ (by decide)) (K4.i _ (by decide)) (e53 34 (by decide) (by decide)) (e53 35 (by decide) (by decide)), r15.kp K4 (by decide), r16.eq (K4.i _ (by decide)) (K4.i _ (by decide)) (K4.i _ (by decide)) (K4.i _ (by decide)) (K4.i _ (by decide)) (e53 37 (by decide) (by decide)) (e53 39 (by decide) (by decide))⟩
    · show t.2.1 0 5 = 1; rw [m0 0 (by decide), q2]
    · show t.2.1 53 30 = 1; rw [K3.i 53 (by decide)]; rfl
    · show t.2.1 0 6 = _; rw [m0 0 (by decide), q3]
    · show t.2.1 53 31 = _; rw [K3.i 53 (by decide)]; rfl
    · show t.2.1 74 i = _; rw [t2.i 74 (by decide), (k1 i hi).1]; show m.1 54 i = _; rw [K1.i 54 (by decide), r8.1 i hi]
    · show t.2.1 74 (12 + i) = _; rw [t2.i 74 (by decide), (k1 i (by omega)).2.1]; show m.1 61 i = _; rw [K1.i 61 (by decide), r8.2.2.1 i hi]
    · show t.2.1 74 (24 + i) = _; rw [t2.i 74 (by decide), (k1 i (by omega)).2.2]; show m.1 60 i = _; rw [K1.i 60 (by decide), r8.2.1 i hi]
    · show t.2.1 74 36 = _; rw [t2.i 74 (by decide), k2]; show m.1 53 10 = _; rw [K1.i 53 (by decide), r8.2.2.2]
    · show t.2.1 24 i = t.2.1 75 i; rw [m0 24 (by decide), q4 i hi, t1 i hi, k3.i 73 (by decide)]; show _ = m.1 73 i; rw [K1.i 73 (by decide)]; exact r11 i hi
